section
set_option maxHeartbeats 4000000 in
set_option maxRecDepth 100000 in
theorem k_X6_in {p : Program} {l : Launch} {e : Env} {s : State} {m : MethodId} {args : Array Value} {below : List Frame} {meth : Method} {c : Code} {A : Nat → Prop} {Q : State → Prop} {dC : Nat → ClassId} {dI : Nat → Nat → Nat} {k : Nat → ClassId} (hx : p.tables.exec = Jvm.exec) (hb : c.code = cX6_in) (hml : c.maxLocals = 6) (hts : ∀ w ∈ wsX6_in, w.before args s = true) (hown : s.vm.findClass RX6 = some m.cls) (hG : gK dC dI k A s) (hA : ∀ q : Nat, s.heap.size ≤ q → A q)  (x0 : Int64) (x2 : Int64) (x4 : Int64) (o_r : Int32) (RET : ∀ (pc : Nat) (H : Heap) (locs : List Loc) (ls : Array Slot) (v : Int32), decode cX6_in pc = .ok (.ireturn, 1) → some v = some o_r → narrow .boolean (.int v) = .int v → va_P (dC, dI) vwCl [] H → va_D A [] → va_S A s.heap H locs → W p l e rm_X6_in s m args below meth c H locs 0 0 Q (F0 m pc ls [.int v])) (H : Heap) (locs : List Loc) (ls : Array Slot) (hl : lv_has ls 6 [(0, .long x0), (2, .long x2), (4, .long x4)]) (hP : va_P (dC, dI) vwCl [] H) (hD : va_D A []) (hS : va_S A s.heap H locs) (hm : f_X6_in x0 x2 x4 = some o_r) : W p l e rm_X6_in s m args below meth c H locs 0 0 Q (F0 m 0 ls []) := by
  unfold f_X6_in at hm
  refine lv_lload_n hx hb dX6_in_0 rfl (lv_at hl 0 rfl) ?_
  refine lv_lload_n hx hb dX6_in_1 rfl (lv_at hl 1 rfl) ?_
  refine g_lcmp_lt (tgt := 17) hx hb dX6_in_2 rfl dX6_in_3 (by decide) (fun c1 => ?_) (fun c1 => ?_)
  · replace hm := ifp c1 hm
    refine lv_iconst (v := (0 : Int32)) hx hb dX6_in_17 (by decide) ?_
    exact RET _ _ _ _ _ dX6_in_18 hm (by decide +kernel) hP hD hS
  · replace hm := ifn c1 hm
    refine lv_lload_n hx hb dX6_in_6 rfl (lv_at hl 0 rfl) ?_
    refine lv_lload hx hb dX6_in_7 (lv_at hl 2 rfl) ?_
    refine g_lcmp_gt (tgt := 17) hx hb dX6_in_9 rfl dX6_in_10 (by decide) (fun c2 => ?_) (fun c2 => ?_)
    · replace hm := ifp c2 hm
      refine lv_iconst (v := (0 : Int32)) hx hb dX6_in_17 (by decide) ?_
      exact RET _ _ _ _ _ dX6_in_18 hm (by decide +kernel) hP hD hS
    · replace hm := ifn c2 hm
      refine lv_iconst (v := (1 : Int32)) hx hb dX6_in_13 (by decide) ?_
      refine lv_goto (tgt := 18) hx hb dX6_in_14 (by decide) ?_
      exact RET _ _ _ _ _ dX6_in_18 hm (by decide +kernel) hP hD hS
set_option maxRecDepth 100000 in
theorem m_X6_in (l : Launch) (dC : Nat → ClassId) (dI : Nat → Nat → Nat) (k : Nat → ClassId) (sz : Nat)  (x0 : Int64) (x2 : Int64) (x4 : Int64) {o_r : Int32} (hm : f_X6_in x0 x2 x4 = some o_r) : Met l yX6_in wsX6_in rm_X6_in (gPre dC dI k [.long x0, .long x2, .long x4] sz []) (gQI dC dI (va_A [] sz) o_r []) 0 0 (va_A [] sz) := by
  refine g_entry (cc := cX6_in) (maxL := 6) (ret := (some .boolean)) (lv := [(0, .long x0), (2, .long x2), (4, .long x4)]) (by decide +kernel) rfl (Nat.le_of_ble_eq_true rfl) rfl (fun p e s m below meth c ls hx hb hr hml hts hown hlk hnm hsz hG hA hP hD hS hl => ?_)
  exact k_X6_in hx hb hml hts hown hG hA x0 x2 x4 o_r (fun pc H locs ls v hd ho hz hP hD hS => by cases ho; exact g_iretz hx hb hr hlk hP hD hS hz hd) s.heap [] ls hl hP hD hS hm
end
section
set_option maxHeartbeats 4000000 in
set_option maxRecDepth 100000 in
theorem k_X6_has {p : Program} {l : Launch} {e : Env} {s : State} {m : MethodId} {args : Array Value} {below : List Frame} {meth : Method} {c : Code} {A : Nat → Prop} {Q : State → Prop} {dC : Nat → ClassId} {dI : Nat → Nat → Nat} {k : Nat → ClassId} (hx : p.tables.exec = Jvm.exec) (hb : c.code = cX6_has) (hml : c.maxLocals = 2) (hts : ∀ w ∈ wsX6_has, w.before args s = true) (hown : s.vm.findClass RX6 = some m.cls) (hG : gK dC dI k A s) (hA : ∀ q : Nat, s.heap.size ≤ q → A q)  (x0 : Int32) (x1 : Int32) (o_r : Int32) (RET : ∀ (pc : Nat) (H : Heap) (locs : List Loc) (ls : Array Slot) (v : Int32), decode cX6_has pc = .ok (.ireturn, 1) → some v = some o_r → narrow .boolean (.int v) = .int v → va_P (dC, dI) vwCl [] H → va_D A [] → va_S A s.heap H locs → W p l e rm_X6_has s m args below meth c H locs 0 0 Q (F0 m pc ls [.int v])) (H : Heap) (locs : List Loc) (ls : Array Slot) (hl : lv_has ls 2 [(0, .int x0), (1, .int x1)]) (hP : va_P (dC, dI) vwCl [] H) (hD : va_D A []) (hS : va_S A s.heap H locs) (hm : f_X6_has x0 x1 = some o_r) : W p l e rm_X6_has s m args below meth c H locs 0 0 Q (F0 m 0 ls []) := by
  unfold f_X6_has at hm
  refine lv_iload_n hx hb dX6_has_0 rfl (lv_at hl 0 rfl) ?_
  refine lv_iload_n hx hb dX6_has_1 rfl (lv_at hl 1 rfl) ?_
  refine g_ishr hx hb dX6_has_2 ?_
  refine lv_iconst (v := (1 : Int32)) hx hb dX6_has_3 (by decide) ?_
  refine lv_iand hx hb dX6_has_4 ?_
  refine lv_iconst (v := (1 : Int32)) hx hb dX6_has_5 (by decide) ?_
  refine lv_icmp_ne (tgt := 13) hx hb dX6_has_6 (by decide) (fun c1 => ?_) (fun c1 => ?_)
  · replace hm := ifn c1 hm
    refine lv_iconst (v := (0 : Int32)) hx hb dX6_has_13 (by decide) ?_
    exact RET _ _ _ _ _ dX6_has_14 hm (by decide +kernel) hP hD hS
  · replace hm := ifp c1 hm
    refine lv_iconst (v := (1 : Int32)) hx hb dX6_has_9 (by decide) ?_
    refine lv_goto (tgt := 14) hx hb dX6_has_10 (by decide) ?_
    exact RET _ _ _ _ _ dX6_has_14 hm (by decide +kernel) hP hD hS
set_option maxRecDepth 100000 in
theorem m_X6_has (l : Launch) (dC : Nat → ClassId) (dI : Nat → Nat → Nat) (k : Nat → ClassId) (sz : Nat)  (x0 : Int32) (x1 : Int32) {o_r : Int32} (hm : f_X6_has x0 x1 = some o_r) : Met l yX6_has wsX6_has rm_X6_has (gPre dC dI k [.int x0, .int x1] sz []) (gQI dC dI (va_A [] sz) o_r []) 0 0 (va_A [] sz) := by
  refine g_entry (cc := cX6_has) (maxL := 2) (ret := (some .boolean)) (lv := [(0, .int x0), (1, .int x1)]) (by decide +kernel) rfl (Nat.le_of_ble_eq_true rfl) rfl (fun p e s m below meth c ls hx hb hr hml hts hown hlk hnm hsz hG hA hP hD hS hl => ?_)
  exact k_X6_has hx hb hml hts hown hG hA x0 x1 o_r (fun pc H locs ls v hd ho hz hP hD hS => by cases ho; exact g_iretz hx hb hr hlk hP hD hS hz hd) s.heap [] ls hl hP hD hS hm
end
section
set_option maxHeartbeats 4000000 in
set_option maxRecDepth 100000 in
theorem k_X6_ones {p : Program} {l : Launch} {e : Env} {s : State} {m : MethodId} {args : Array Value} {below : List Frame} {meth : Method} {c : Code} {A : Nat → Prop} {Q : State → Prop} {dC : Nat → ClassId} {dI : Nat → Nat → Nat} {k : Nat → ClassId} (hx : p.tables.exec = Jvm.exec) (hb : c.code = cX6_ones) (hml : c.maxLocals = 3) (hts : ∀ w ∈ wsX6_ones, w.before args s = true) (hown : s.vm.findClass RX6 = some m.cls) (hG : gK dC dI k A s) (hA : ∀ q : Nat, s.heap.size ≤ q → A q) (F : Nat)  (x0 : Int32) (o_r : Int32) (RET : ∀ (pc : Nat) (H : Heap) (locs : List Loc) (ls : Array Slot) (v : Int32), decode cX6_ones pc = .ok (.ireturn, 1) → some v = some o_r → va_P (dC, dI) vwCl [] H → va_D A [] → va_S A s.heap H locs → W p l e rm_X6_ones s m args below meth c H locs 0 0 Q (F0 m pc ls [.int v])) (H : Heap) (locs : List Loc) (ls : Array Slot) (hl : lv_has ls 3 [(0, .int x0)]) (hP : va_P (dC, dI) vwCl [] H) (hD : va_D A []) (hS : va_S A s.heap H locs) (hm : f_X6_ones F x0 = some o_r) : W p l e rm_X6_ones s m args below meth c H locs 0 0 Q (F0 m 0 ls []) := by
  have L_4 : ∀ (n4 : Nat) (x0 : Int32) (x1 : Int32) (x2 : Int32) (H : Heap) (locs : List Loc) (ls : Array Slot), lv_has ls 3 [(0, .int x0), (1, .int x1), (2, .int x2)] → va_P (dC, dI) vwCl [] H → va_D A [] → va_S A s.heap H locs → f_X6_ones_L4 F n4 x0 x1 x2 = some o_r → W p l e rm_X6_ones s m args below meth c H locs 0 0 Q (F0 m 4 ls []) := by
    intro n4
    induction n4 with
    | zero =>
      intro x0 x1 x2 H locs ls hl hP hD hS hm
      exact non_some hm
    | succ n4 ih4 =>
      intro x0 x1 x2 H locs ls hl hP hD hS hm
      replace hm : f_X6_ones_B4 F (f_X6_ones_L4 F n4) x0 x1 x2 = some o_r := hm
      unfold f_X6_ones_B4 at hm
      refine lv_iload_n hx hb dX6_ones_4 rfl (lv_at hl 2 rfl) ?_
      refine lv_bipush (v := (8 : Int32)) hx hb dX6_ones_5 (by decide) ?_
      refine lv_icmp_ge (tgt := 24) hx hb dX6_ones_7 (by decide) (fun c1 => ?_) (fun c1 => ?_)
      · replace hm := ifp c1 hm
        refine lv_iload_n hx hb dX6_ones_24 rfl (lv_at hl 1 rfl) ?_
        exact RET _ _ _ _ _ dX6_ones_25 hm hP hD hS
      · replace hm := ifn c1 hm
        refine lv_iload_n hx hb dX6_ones_10 rfl (lv_at hl 1 rfl) ?_
        refine lv_iload_n hx hb dX6_ones_11 rfl (lv_at hl 0 rfl) ?_
        refine lv_iload_n hx hb dX6_ones_12 rfl (lv_at hl 2 rfl) ?_
        refine g_ishr hx hb dX6_ones_13 ?_
        refine lv_iconst (v := (1 : Int32)) hx hb dX6_ones_14 (by decide) ?_
        refine lv_iand hx hb dX6_ones_15 ?_
        refine lv_iadd hx hb dX6_ones_16 ?_
        refine lv_topi (fun t2 et2 => ?_)
        replace hm := (nmd_eq et2).trans hm
        refine lv_istore_n (lv' := [(1, .int t2), (0, .int x0), (2, .int x2)]) hx hb dX6_ones_17 rfl hl (by decide) rfl (fun ls hl => ?_)
        obtain ⟨t3, et3⟩ : ∃ y : Int32, y = x2 + (1 : Int32) := ⟨_, rfl⟩
        replace hm := (nmd_eq et3).trans hm
        refine lv_iinc (v := t3) (lv' := [(2, .int t3), (1, .int t2), (0, .int x0)]) hx hb dX6_ones_18 hl (k := 2) rfl (by rw [et3]; rfl) (by decide) rfl (fun ls hl => ?_)
        refine lv_goto (tgt := 4) hx hb dX6_ones_21 (by decide) ?_
        exact ih4 _ _ _ _ _ _ (lv_sub hl [2, 1, 0] rfl) hP hD hS hm
  unfold f_X6_ones at hm
  refine lv_iconst (v := (0 : Int32)) hx hb dX6_ones_0 (by decide) ?_
  refine lv_istore_n (lv' := [(1, .int (0 : Int32)), (0, .int x0)]) hx hb dX6_ones_1 rfl hl (by decide) rfl (fun ls hl => ?_)
  refine lv_iconst (v := (0 : Int32)) hx hb dX6_ones_2 (by decide) ?_
  refine lv_istore_n (lv' := [(2, .int (0 : Int32)), (1, .int (0 : Int32)), (0, .int x0)]) hx hb dX6_ones_3 rfl hl (by decide) rfl (fun ls hl => ?_)
  exact L_4 F _ _ _ _ _ _ (lv_sub hl [2, 1, 0] rfl) hP hD hS hm
set_option maxRecDepth 100000 in
theorem m_X6_ones (l : Launch) (dC : Nat → ClassId) (dI : Nat → Nat → Nat) (k : Nat → ClassId) (F : Nat) (sz : Nat)  (x0 : Int32) {o_r : Int32} (hm : f_X6_ones F x0 = some o_r) : Met l yX6_ones wsX6_ones rm_X6_ones (gPre dC dI k [.int x0] sz []) (gQI dC dI (va_A [] sz) o_r []) 0 0 (va_A [] sz) := by
  refine g_entry (cc := cX6_ones) (maxL := 3) (ret := (some .int)) (lv := [(0, .int x0)]) (by decide +kernel) rfl (Nat.le_of_ble_eq_true rfl) rfl (fun p e s m below meth c ls hx hb hr hml hts hown hlk hnm hsz hG hA hP hD hS hl => ?_)
  exact k_X6_ones hx hb hml hts hown hG hA F x0 o_r (fun pc H locs ls v hd ho hP hD hS => by cases ho; exact g_ireti hx hb hr hlk hP hD hS hd) s.heap [] ls hl hP hD hS hm
end
section
set_option maxHeartbeats 4000000 in
set_option maxRecDepth 100000 in
theorem k_X6_power {p : Program} {l : Launch} {e : Env} {s : State} {m : MethodId} {args : Array Value} {below : List Frame} {meth : Method} {c : Code} {A : Nat → Prop} {Q : State → Prop} {dC : Nat → ClassId} {dI : Nat → Nat → Nat} {k : Nat → ClassId} (hx : p.tables.exec = Jvm.exec) (hb : c.code = cX6_power) (hml : c.maxLocals = 4) (hts : ∀ w ∈ wsX6_power, w.before args s = true) (hown : s.vm.findClass RX6 = some m.cls) (hG : gK dC dI k A s) (hA : ∀ q : Nat, s.heap.size ≤ q → A q) (F : Nat)  (x0 : Int32) (x1 : Int32) (o_r : Int32) (RET : ∀ (pc : Nat) (H : Heap) (locs : List Loc) (ls : Array Slot) (v : Int32), decode cX6_power pc = .ok (.ireturn, 1) → some v = some o_r → va_P (dC, dI) vwCl [] H → va_D A [] → va_S A s.heap H locs → W p l e rm_X6_power s m args below meth c H locs 0 0 Q (F0 m pc ls [.int v])) (H : Heap) (locs : List Loc) (ls : Array Slot) (hl : lv_has ls 4 [(0, .int x0), (1, .int x1)]) (hP : va_P (dC, dI) vwCl [] H) (hD : va_D A []) (hS : va_S A s.heap H locs) (hm : f_X6_power F x0 x1 = some o_r) : W p l e rm_X6_power s m args below meth c H locs 0 0 Q (F0 m 0 ls []) := by
  have L_4 : ∀ (n4 : Nat) (x0 : Int32) (x1 : Int32) (x2 : Int32) (x3 : Int32) (H : Heap) (locs : List Loc) (ls : Array Slot), lv_has ls 4 [(0, .int x0), (1, .int x1), (2, .int x2), (3, .int x3)] → va_P (dC, dI) vwCl [] H → va_D A [] → va_S A s.heap H locs → f_X6_power_L4 F n4 x0 x1 x2 x3 = some o_r → W p l e rm_X6_power s m args below meth c H locs 0 0 Q (F0 m 4 ls []) := by
    intro n4
    induction n4 with
    | zero =>
      intro x0 x1 x2 x3 H locs ls hl hP hD hS hm
      exact non_some hm
    | succ n4 ih4 =>
      intro x0 x1 x2 x3 H locs ls hl hP hD hS hm
      replace hm : f_X6_power_B4 F (f_X6_power_L4 F n4) x0 x1 x2 x3 = some o_r := hm
      unfold f_X6_power_B4 at hm
      refine lv_iload_n hx hb dX6_power_4 rfl (lv_at hl 3 rfl) ?_
      refine lv_iload_n hx hb dX6_power_5 rfl (lv_at hl 1 rfl) ?_
      refine lv_icmp_ge (tgt := 19) hx hb dX6_power_6 (by decide) (fun c1 => ?_) (fun c1 => ?_)
      · replace hm := ifp c1 hm
        refine lv_iload_n hx hb dX6_power_19 rfl (lv_at hl 2 rfl) ?_
        exact RET _ _ _ _ _ dX6_power_20 hm hP hD hS
      · replace hm := ifn c1 hm
        refine lv_iload_n hx hb dX6_power_9 rfl (lv_at hl 2 rfl) ?_
        refine lv_iload_n hx hb dX6_power_10 rfl (lv_at hl 0 rfl) ?_
        refine lv_imul hx hb dX6_power_11 ?_
        refine lv_topi (fun t2 et2 => ?_)
        replace hm := (nmd_eq et2).trans hm
        refine lv_istore_n (lv' := [(2, .int t2), (0, .int x0), (1, .int x1), (3, .int x3)]) hx hb dX6_power_12 rfl hl (by decide) rfl (fun ls hl => ?_)
        obtain ⟨t3, et3⟩ : ∃ y : Int32, y = x3 + (1 : Int32) := ⟨_, rfl⟩
        replace hm := (nmd_eq et3).trans hm
        refine lv_iinc (v := t3) (lv' := [(3, .int t3), (2, .int t2), (0, .int x0), (1, .int x1)]) hx hb dX6_power_13 hl (k := 3) rfl (by rw [et3]; rfl) (by decide) rfl (fun ls hl => ?_)
        refine lv_goto (tgt := 4) hx hb dX6_power_16 (by decide) ?_
        exact ih4 _ _ _ _ _ _ _ (lv_sub hl [2, 3, 1, 0] rfl) hP hD hS hm
  unfold f_X6_power at hm
  refine lv_iconst (v := (1 : Int32)) hx hb dX6_power_0 (by decide) ?_
  refine lv_istore_n (lv' := [(2, .int (1 : Int32)), (0, .int x0), (1, .int x1)]) hx hb dX6_power_1 rfl hl (by decide) rfl (fun ls hl => ?_)
  refine lv_iconst (v := (0 : Int32)) hx hb dX6_power_2 (by decide) ?_
  refine lv_istore_n (lv' := [(3, .int (0 : Int32)), (2, .int (1 : Int32)), (0, .int x0), (1, .int x1)]) hx hb dX6_power_3 rfl hl (by decide) rfl (fun ls hl => ?_)
  exact L_4 F _ _ _ _ _ _ _ (lv_sub hl [2, 3, 1, 0] rfl) hP hD hS hm
set_option maxRecDepth 100000 in
theorem m_X6_power (l : Launch) (dC : Nat → ClassId) (dI : Nat → Nat → Nat) (k : Nat → ClassId) (F : Nat) (sz : Nat)  (x0 : Int32) (x1 : Int32) {o_r : Int32} (hm : f_X6_power F x0 x1 = some o_r) : Met l yX6_power wsX6_power rm_X6_power (gPre dC dI k [.int x0, .int x1] sz []) (gQI dC dI (va_A [] sz) o_r []) 0 0 (va_A [] sz) := by
  refine g_entry (cc := cX6_power) (maxL := 4) (ret := (some .int)) (lv := [(0, .int x0), (1, .int x1)]) (by decide +kernel) rfl (Nat.le_of_ble_eq_true rfl) rfl (fun p e s m below meth c ls hx hb hr hml hts hown hlk hnm hsz hG hA hP hD hS hl => ?_)
  exact k_X6_power hx hb hml hts hown hG hA F x0 x1 o_r (fun pc H locs ls v hd ho hP hD hS => by cases ho; exact g_ireti hx hb hr hlk hP hD hS hd) s.heap [] ls hl hP hD hS hm
end
section
set_option maxHeartbeats 4000000 in
set_option maxRecDepth 100000 in
theorem k_X6_layTrial {p : Program} {l : Launch} {e : Env} {s : State} {m : MethodId} {args : Array Value} {below : List Frame} {meth : Method} {c : Code} {A : Nat → Prop} {Q : State → Prop} {dC : Nat → ClassId} {dI : Nat → Nat → Nat} {k : Nat → ClassId} (hx : p.tables.exec = Jvm.exec) (hb : c.code = cX6_layTrial) (hml : c.maxLocals = 2) (hts : ∀ w ∈ wsX6_layTrial, w.before args s = true) (hown : s.vm.findClass RX6 = some m.cls) (hG : gK dC dI k A s) (hA : ∀ q : Nat, s.heap.size ≤ q → A q) (F : Nat) (n_t n_text n_readPage n_page n_trial n_book n_kept n_isKept n_seenStation n_seenOther n_seenWide n_seenWas n_sines n_at n_column n_gram n_right n_work : Nat) (v_thrown : Int32) (v_textSize : Int32) (v_place : Int32) (v_stations : Int32) (v_readStations : Int32) (v_doings : Int32) (v_seen : Int32) (v_seed : Int64) (v_wide : Int32) (v_up : Int64) (v_low : Int64) (r_page : Nat → Int32) (r_trial : Nat → Int32) (o_r_trial : (Nat → Int32)) (RET : ∀ (pc : Nat) (H : Heap) (locs : List Loc) (ls : Array Slot) (q_r_trial : Nat → Int32), decode cX6_layTrial pc = .ok (.return_, 1) → some q_r_trial = some o_r_trial → va_P (dC, dI) vwCl (wd_95a9bb k n_t n_text n_readPage n_page n_trial n_book n_kept n_isKept n_seenStation n_seenOther n_seenWide n_seenWas n_sines n_at n_column n_gram n_right n_work v_thrown v_textSize v_place v_stations v_readStations v_doings v_seen v_seed v_wide v_up v_low r_page q_r_trial) H → va_D A (wd_95a9bb k n_t n_text n_readPage n_page n_trial n_book n_kept n_isKept n_seenStation n_seenOther n_seenWide n_seenWas n_sines n_at n_column n_gram n_right n_work v_thrown v_textSize v_place v_stations v_readStations v_doings v_seen v_seed v_wide v_up v_low r_page q_r_trial) → va_S A s.heap H locs → W p l e rm_X6_layTrial s m args below meth c H locs 0 0 Q (F0 m pc ls [])) (H : Heap) (locs : List Loc) (ls : Array Slot) (hl : lv_has ls 2 [(0, .ref n_t)]) (hP : va_P (dC, dI) vwCl (wd_95a9bb k n_t n_text n_readPage n_page n_trial n_book n_kept n_isKept n_seenStation n_seenOther n_seenWide n_seenWas n_sines n_at n_column n_gram n_right n_work v_thrown v_textSize v_place v_stations v_readStations v_doings v_seen v_seed v_wide v_up v_low r_page r_trial) H) (hD : va_D A (wd_95a9bb k n_t n_text n_readPage n_page n_trial n_book n_kept n_isKept n_seenStation n_seenOther n_seenWide n_seenWas n_sines n_at n_column n_gram n_right n_work v_thrown v_textSize v_place v_stations v_readStations v_doings v_seen v_seed v_wide v_up v_low r_page r_trial)) (hS : va_S A s.heap H locs) (hm : f_X6_layTrial F r_page r_trial = some o_r_trial) : W p l e rm_X6_layTrial s m args below meth c H locs 0 0 Q (F0 m 0 ls []) := by
  have hinX6 : ∀ w ∈ u_ws RX6 TX6 28, w ∈ wsX6_layTrial := by decide +kernel
  have k0 := hts (.fieldLink RX6 23 "CaveLegsModel" "trial" "[I") (by decide +kernel)
  have k1 := hts (.fieldLink RX6 20 "CaveLegsModel" "page" "[I") (by decide +kernel)
  have L_2 : ∀ (n2 : Nat) (r_trial : Nat → Int32) (x1 : Int32) (H : Heap) (locs : List Loc) (ls : Array Slot), lv_has ls 2 [(0, .ref n_t), (1, .int x1)] → va_P (dC, dI) vwCl (wd_95a9bb k n_t n_text n_readPage n_page n_trial n_book n_kept n_isKept n_seenStation n_seenOther n_seenWide n_seenWas n_sines n_at n_column n_gram n_right n_work v_thrown v_textSize v_place v_stations v_readStations v_doings v_seen v_seed v_wide v_up v_low r_page r_trial) H → va_D A (wd_95a9bb k n_t n_text n_readPage n_page n_trial n_book n_kept n_isKept n_seenStation n_seenOther n_seenWide n_seenWas n_sines n_at n_column n_gram n_right n_work v_thrown v_textSize v_place v_stations v_readStations v_doings v_seen v_seed v_wide v_up v_low r_page r_trial) → va_S A s.heap H locs → f_X6_layTrial_L2 F r_page n2 r_trial x1 = some o_r_trial → W p l e rm_X6_layTrial s m args below meth c H locs 0 0 Q (F0 m 2 ls []) := by
    intro n2
    induction n2 with
    | zero =>
      intro r_trial x1 H locs ls hl hP hD hS hm
      exact non_some hm
    | succ n2 ih2 =>
      intro r_trial x1 H locs ls hl hP hD hS hm
      replace hm : f_X6_layTrial_B2 F r_page (f_X6_layTrial_L2 F r_page n2) r_trial x1 = some o_r_trial := hm
      unfold f_X6_layTrial_B2 at hm
      refine lv_iload_n hx hb dX6_layTrial_2 rfl (lv_at hl 1 rfl) ?_
      refine lv_bipush (v := (50 : Int32)) hx hb dX6_layTrial_3 (by decide) ?_
      refine lv_icmp_ge (tgt := 26) hx hb dX6_layTrial_5 (by decide) (fun c1 => ?_) (fun c1 => ?_)
      · replace hm := ifp c1 hm
        exact RET _ _ _ _ _ dX6_layTrial_26 hm hP hD hS
      · replace hm := ifn c1 hm
        refine lv_aload_n hx hb dX6_layTrial_8 rfl (lv_at hl 0 rfl) ?_
        refine va_get (D := (dC, dI)) (ci := 6) (v := .ref n_trial) (C := RX6) (T := TX6) (N := 28) hx hb hts hinX6 hown hG.1 hP 0 rfl rfl 8 (by decide) k0 (fun _ h9 => h9) rfl dX6_layTrial_9 ?_
        refine lv_iload_n hx hb dX6_layTrial_12 rfl (lv_at hl 1 rfl) ?_
        refine lv_aload_n hx hb dX6_layTrial_13 rfl (lv_at hl 0 rfl) ?_
        refine va_get (D := (dC, dI)) (ci := 6) (v := .ref n_page) (C := RX6) (T := TX6) (N := 28) hx hb hts hinX6 hown hG.1 hP 0 rfl rfl 7 (by decide) k1 (fun _ h9 => h9) rfl dX6_layTrial_14 ?_
        refine lv_iload_n hx hb dX6_layTrial_17 rfl (lv_at hl 1 rfl) ?_
        obtain ⟨hi2, hm⟩ := chk_some hm
        refine va_iald hx hb hG.1 hP 1 0 rfl rfl hi2 dX6_layTrial_18 ?_
        refine lv_topi (fun t3 et3 => ?_)
        replace hm := (nmd_eq et3).trans hm
        obtain ⟨hi4, hm⟩ := chk_some hm
        refine va_iast hx hb hG.1 hP hD hS 2 0 rfl rfl hi4 dX6_layTrial_19 (fun H locs hP hD hS => ?_)
        replace hP : va_P (dC, dI) vwCl (wd_95a9bb k n_t n_text n_readPage n_page n_trial n_book n_kept n_isKept n_seenStation n_seenOther n_seenWide n_seenWas n_sines n_at n_column n_gram n_right n_work v_thrown v_textSize v_place v_stations v_readStations v_doings v_seen v_seed v_wide v_up v_low r_page (upd r_trial (Int32.toNatClampNeg x1) t3)) H := hP
        replace hD : va_D A (wd_95a9bb k n_t n_text n_readPage n_page n_trial n_book n_kept n_isKept n_seenStation n_seenOther n_seenWide n_seenWas n_sines n_at n_column n_gram n_right n_work v_thrown v_textSize v_place v_stations v_readStations v_doings v_seen v_seed v_wide v_up v_low r_page (upd r_trial (Int32.toNatClampNeg x1) t3)) := hD
        obtain ⟨t5, et5⟩ : ∃ y : Int32, y = x1 + (1 : Int32) := ⟨_, rfl⟩
        replace hm := (nmd_eq et5).trans hm
        refine lv_iinc (v := t5) (lv' := [(1, .int t5), (0, .ref n_t)]) hx hb dX6_layTrial_20 hl (k := 1) rfl (by rw [et5]; rfl) (by decide) rfl (fun ls hl => ?_)
        refine lv_goto (tgt := 2) hx hb dX6_layTrial_23 (by decide) ?_
        exact ih2 _ _ _ _ _ (lv_sub hl [1, 0] rfl) hP hD hS hm
  unfold f_X6_layTrial at hm
  refine lv_iconst (v := (0 : Int32)) hx hb dX6_layTrial_0 (by decide) ?_
  refine lv_istore_n (lv' := [(1, .int (0 : Int32)), (0, .ref n_t)]) hx hb dX6_layTrial_1 rfl hl (by decide) rfl (fun ls hl => ?_)
  exact L_2 F _ _ _ _ _ (lv_sub hl [1, 0] rfl) hP hD hS hm
set_option maxRecDepth 100000 in
theorem m_X6_layTrial (l : Launch) (dC : Nat → ClassId) (dI : Nat → Nat → Nat) (k : Nat → ClassId) (F : Nat) (sz : Nat) (n_t n_text n_readPage n_page n_trial n_book n_kept n_isKept n_seenStation n_seenOther n_seenWide n_seenWas n_sines n_at n_column n_gram n_right n_work : Nat) (v_thrown : Int32) (v_textSize : Int32) (v_place : Int32) (v_stations : Int32) (v_readStations : Int32) (v_doings : Int32) (v_seen : Int32) (v_seed : Int64) (v_wide : Int32) (v_up : Int64) (v_low : Int64) (r_page : Nat → Int32) (r_trial : Nat → Int32) {o_r_trial : (Nat → Int32)} (hm : f_X6_layTrial F r_page r_trial = some o_r_trial) : Met l yX6_layTrial wsX6_layTrial rm_X6_layTrial (gPre dC dI k [.ref n_t] sz (wd_95a9bb k n_t n_text n_readPage n_page n_trial n_book n_kept n_isKept n_seenStation n_seenOther n_seenWide n_seenWas n_sines n_at n_column n_gram n_right n_work v_thrown v_textSize v_place v_stations v_readStations v_doings v_seen v_seed v_wide v_up v_low r_page r_trial)) (gQV dC dI (va_A (wd_95a9bb k n_t n_text n_readPage n_page n_trial n_book n_kept n_isKept n_seenStation n_seenOther n_seenWide n_seenWas n_sines n_at n_column n_gram n_right n_work v_thrown v_textSize v_place v_stations v_readStations v_doings v_seen v_seed v_wide v_up v_low r_page r_trial) sz) (wd_95a9bb k n_t n_text n_readPage n_page n_trial n_book n_kept n_isKept n_seenStation n_seenOther n_seenWide n_seenWas n_sines n_at n_column n_gram n_right n_work v_thrown v_textSize v_place v_stations v_readStations v_doings v_seen v_seed v_wide v_up v_low r_page o_r_trial)) 0 0 (va_A (wd_95a9bb k n_t n_text n_readPage n_page n_trial n_book n_kept n_isKept n_seenStation n_seenOther n_seenWide n_seenWas n_sines n_at n_column n_gram n_right n_work v_thrown v_textSize v_place v_stations v_readStations v_doings v_seen v_seed v_wide v_up v_low r_page r_trial) sz) := by
  refine g_entry (cc := cX6_layTrial) (maxL := 2) (ret := none) (lv := [(0, .ref n_t)]) (by decide +kernel) rfl (Nat.le_of_ble_eq_true rfl) rfl (fun p e s m below meth c ls hx hb hr hml hts hown hlk hnm hsz hG hA hP hD hS hl => ?_)
  exact k_X6_layTrial hx hb hml hts hown hG hA F n_t n_text n_readPage n_page n_trial n_book n_kept n_isKept n_seenStation n_seenOther n_seenWide n_seenWas n_sines n_at n_column n_gram n_right n_work v_thrown v_textSize v_place v_stations v_readStations v_doings v_seen v_seed v_wide v_up v_low r_page r_trial o_r_trial (fun pc H locs ls q_r_trial hd ho hP hD hS => by cases ho; exact g_vret hx hb hr hlk hP hD hS hd) s.heap [] ls hl hP hD hS hm
end
section
set_option maxHeartbeats 4000000 in
set_option maxRecDepth 100000 in
theorem k_X6_noStation {p : Program} {l : Launch} {e : Env} {s : State} {m : MethodId} {args : Array Value} {below : List Frame} {meth : Method} {c : Code} {A : Nat → Prop} {Q : State → Prop} {dC : Nat → ClassId} {dI : Nat → Nat → Nat} {k : Nat → ClassId} (hx : p.tables.exec = Jvm.exec) (hb : c.code = cX6_noStation) (hml : c.maxLocals = 2) (hts : ∀ w ∈ wsX6_noStation, w.before args s = true) (hown : s.vm.findClass RX6 = some m.cls) (hG : gK dC dI k A s) (hA : ∀ q : Nat, s.heap.size ≤ q → A q) (n_t n_text n_readPage n_page n_trial n_book n_kept n_isKept n_seenStation n_seenOther n_seenWide n_seenWas n_sines n_at n_column n_gram n_right n_work : Nat) (v_thrown : Int32) (v_textSize : Int32) (v_place : Int32) (v_stations : Int32) (v_readStations : Int32) (v_doings : Int32) (v_seen : Int32) (v_seed : Int64) (v_wide : Int32) (v_up : Int64) (v_low : Int64) (x1 : Int32) (o_r : Int32) (RET : ∀ (pc : Nat) (H : Heap) (locs : List Loc) (ls : Array Slot) (v : Int32), decode cX6_noStation pc = .ok (.ireturn, 1) → some v = some o_r → narrow .boolean (.int v) = .int v → va_P (dC, dI) vwCl (wd_471624 k n_t n_text n_readPage n_page n_trial n_book n_kept n_isKept n_seenStation n_seenOther n_seenWide n_seenWas n_sines n_at n_column n_gram n_right n_work v_thrown v_textSize v_place v_stations v_readStations v_doings v_seen v_seed v_wide v_up v_low) H → va_D A (wd_471624 k n_t n_text n_readPage n_page n_trial n_book n_kept n_isKept n_seenStation n_seenOther n_seenWide n_seenWas n_sines n_at n_column n_gram n_right n_work v_thrown v_textSize v_place v_stations v_readStations v_doings v_seen v_seed v_wide v_up v_low) → va_S A s.heap H locs → W p l e rm_X6_noStation s m args below meth c H locs 0 0 Q (F0 m pc ls [.int v])) (H : Heap) (locs : List Loc) (ls : Array Slot) (hl : lv_has ls 2 [(0, .ref n_t), (1, .int x1)]) (hP : va_P (dC, dI) vwCl (wd_471624 k n_t n_text n_readPage n_page n_trial n_book n_kept n_isKept n_seenStation n_seenOther n_seenWide n_seenWas n_sines n_at n_column n_gram n_right n_work v_thrown v_textSize v_place v_stations v_readStations v_doings v_seen v_seed v_wide v_up v_low) H) (hD : va_D A (wd_471624 k n_t n_text n_readPage n_page n_trial n_book n_kept n_isKept n_seenStation n_seenOther n_seenWide n_seenWas n_sines n_at n_column n_gram n_right n_work v_thrown v_textSize v_place v_stations v_readStations v_doings v_seen v_seed v_wide v_up v_low)) (hS : va_S A s.heap H locs) (hm : f_X6_noStation x1 v_stations = some o_r) : W p l e rm_X6_noStation s m args below meth c H locs 0 0 Q (F0 m 0 ls []) := by
  have hinX6 : ∀ w ∈ u_ws RX6 TX6 28, w ∈ wsX6_noStation := by decide +kernel
  have k0 := hts (.fieldLink RX6 13 "CaveLegsModel" "stations" "I") (by decide +kernel)
  unfold f_X6_noStation at hm
  refine lv_iload_n hx hb dX6_noStation_0 rfl (lv_at hl 1 rfl) ?_
  refine g_i2l hx hb dX6_noStation_1 ?_
  refine lv_lconst (v := (0 : Int64)) hx hb dX6_noStation_2 (by decide) ?_
  refine lv_aload_n hx hb dX6_noStation_3 rfl (lv_at hl 0 rfl) ?_
  refine va_get (D := (dC, dI)) (ci := 6) (v := .int v_stations) (C := RX6) (T := TX6) (N := 28) hx hb hts hinX6 hown hG.1 hP 0 rfl rfl 4 (by decide) k0 (fun _ h9 => h9) rfl dX6_noStation_4 ?_
  refine lv_iconst (v := (1 : Int32)) hx hb dX6_noStation_7 (by decide) ?_
  refine lv_isub hx hb dX6_noStation_8 ?_
  refine g_i2l hx hb dX6_noStation_9 ?_
  obtain ⟨r1, e2, hm⟩ := bnd1_some hm
  refine g_calli (w2 := (wd_471624 k n_t n_text n_readPage n_page n_trial n_book n_kept n_isKept n_seenStation n_seenOther n_seenWide n_seenWas n_sines n_at n_column n_gram n_right n_work v_thrown v_textSize v_place v_stations v_readStations v_doings v_seen v_seed v_wide v_up v_low)) (va_runS (As := [.long (Int32.toInt64 x1), .long (0 : Int64), .long (Int32.toInt64 (v_stations - (1 : Int32)))]) (rest := []) ⟨hx, hb, hml, hown, hts⟩ (m_X6_in l dC dI k H.size  (Int32.toInt64 x1) (0 : Int64) (Int32.toInt64 (v_stations - (1 : Int32))) e2) (va_cwS 3 hts gX6_noStation_X6_in rfl rfl rfl (by decide +kernel) ⟨Nat.le_of_ble_eq_true rfl, Nat.le_of_ble_eq_true rfl⟩) (g_preS hG hP hD hS hA [] rfl (by decide)) rfl rfl hl.1 rfl (lv_room (Nat.le_of_ble_eq_true rfl)) dX6_noStation_10 ⟨Nat.le_of_ble_eq_true rfl, Nat.le_of_ble_eq_true rfl⟩) hP hD hS hA [] [0] [0] rfl rfl (by decide) (by decide) rfl (by decide) (fun H locs hP hD hS => ?_)
  refine lv_if_ne (tgt := 20) hx hb dX6_noStation_13 (by decide) (fun c3 => ?_) (fun c3 => ?_)
  · replace hm := ifn c3 hm
    refine lv_iconst (v := (0 : Int32)) hx hb dX6_noStation_20 (by decide) ?_
    exact RET _ _ _ _ _ dX6_noStation_21 hm (by decide +kernel) hP hD hS
  · replace hm := ifp c3 hm
    refine lv_iconst (v := (1 : Int32)) hx hb dX6_noStation_16 (by decide) ?_
    refine lv_goto (tgt := 21) hx hb dX6_noStation_17 (by decide) ?_
    exact RET _ _ _ _ _ dX6_noStation_21 hm (by decide +kernel) hP hD hS
set_option maxRecDepth 100000 in
theorem m_X6_noStation (l : Launch) (dC : Nat → ClassId) (dI : Nat → Nat → Nat) (k : Nat → ClassId) (sz : Nat) (n_t n_text n_readPage n_page n_trial n_book n_kept n_isKept n_seenStation n_seenOther n_seenWide n_seenWas n_sines n_at n_column n_gram n_right n_work : Nat) (v_thrown : Int32) (v_textSize : Int32) (v_place : Int32) (v_stations : Int32) (v_readStations : Int32) (v_doings : Int32) (v_seen : Int32) (v_seed : Int64) (v_wide : Int32) (v_up : Int64) (v_low : Int64) (x1 : Int32) {o_r : Int32} (hm : f_X6_noStation x1 v_stations = some o_r) : Met l yX6_noStation wsX6_noStation rm_X6_noStation (gPre dC dI k [.ref n_t, .int x1] sz (wd_471624 k n_t n_text n_readPage n_page n_trial n_book n_kept n_isKept n_seenStation n_seenOther n_seenWide n_seenWas n_sines n_at n_column n_gram n_right n_work v_thrown v_textSize v_place v_stations v_readStations v_doings v_seen v_seed v_wide v_up v_low)) (gQI dC dI (va_A (wd_471624 k n_t n_text n_readPage n_page n_trial n_book n_kept n_isKept n_seenStation n_seenOther n_seenWide n_seenWas n_sines n_at n_column n_gram n_right n_work v_thrown v_textSize v_place v_stations v_readStations v_doings v_seen v_seed v_wide v_up v_low) sz) o_r (wd_471624 k n_t n_text n_readPage n_page n_trial n_book n_kept n_isKept n_seenStation n_seenOther n_seenWide n_seenWas n_sines n_at n_column n_gram n_right n_work v_thrown v_textSize v_place v_stations v_readStations v_doings v_seen v_seed v_wide v_up v_low)) 0 0 (va_A (wd_471624 k n_t n_text n_readPage n_page n_trial n_book n_kept n_isKept n_seenStation n_seenOther n_seenWide n_seenWas n_sines n_at n_column n_gram n_right n_work v_thrown v_textSize v_place v_stations v_readStations v_doings v_seen v_seed v_wide v_up v_low) sz) := by
  refine g_entry (cc := cX6_noStation) (maxL := 2) (ret := (some .boolean)) (lv := [(0, .ref n_t), (1, .int x1)]) (by decide +kernel) rfl (Nat.le_of_ble_eq_true rfl) rfl (fun p e s m below meth c ls hx hb hr hml hts hown hlk hnm hsz hG hA hP hD hS hl => ?_)
  exact k_X6_noStation hx hb hml hts hown hG hA n_t n_text n_readPage n_page n_trial n_book n_kept n_isKept n_seenStation n_seenOther n_seenWide n_seenWas n_sines n_at n_column n_gram n_right n_work v_thrown v_textSize v_place v_stations v_readStations v_doings v_seen v_seed v_wide v_up v_low x1 o_r (fun pc H locs ls v hd ho hz hP hD hS => by cases ho; exact g_iretz hx hb hr hlk hP hD hS hz hd) s.heap [] ls hl hP hD hS hm
end
section
set_option maxHeartbeats 4000000 in
set_option maxRecDepth 100000 in
theorem k_X6_noLeg {p : Program} {l : Launch} {e : Env} {s : State} {m : MethodId} {args : Array Value} {below : List Frame} {meth : Method} {c : Code} {A : Nat → Prop} {Q : State → Prop} {dC : Nat → ClassId} {dI : Nat → Nat → Nat} {k : Nat → ClassId} (hx : p.tables.exec = Jvm.exec) (hb : c.code = cX6_noLeg) (hml : c.maxLocals = 2) (hts : ∀ w ∈ wsX6_noLeg, w.before args s = true) (hown : s.vm.findClass RX6 = some m.cls) (hG : gK dC dI k A s) (hA : ∀ q : Nat, s.heap.size ≤ q → A q) (n_t n_text n_readPage n_page n_trial n_book n_kept n_isKept n_seenStation n_seenOther n_seenWide n_seenWas n_sines n_at n_column n_gram n_right n_work : Nat) (v_thrown : Int32) (v_textSize : Int32) (v_place : Int32) (v_stations : Int32) (v_readStations : Int32) (v_doings : Int32) (v_seen : Int32) (v_seed : Int64) (v_wide : Int32) (v_up : Int64) (v_low : Int64) (r_page : Nat → Int32) (x1 : Int32) (o_r : Int32) (RET : ∀ (pc : Nat) (H : Heap) (locs : List Loc) (ls : Array Slot) (v : Int32), decode cX6_noLeg pc = .ok (.ireturn, 1) → some v = some o_r → narrow .boolean (.int v) = .int v → va_P (dC, dI) vwCl (wd_6d76fb k n_t n_text n_readPage n_page n_trial n_book n_kept n_isKept n_seenStation n_seenOther n_seenWide n_seenWas n_sines n_at n_column n_gram n_right n_work v_thrown v_textSize v_place v_stations v_readStations v_doings v_seen v_seed v_wide v_up v_low r_page) H → va_D A (wd_6d76fb k n_t n_text n_readPage n_page n_trial n_book n_kept n_isKept n_seenStation n_seenOther n_seenWide n_seenWas n_sines n_at n_column n_gram n_right n_work v_thrown v_textSize v_place v_stations v_readStations v_doings v_seen v_seed v_wide v_up v_low r_page) → va_S A s.heap H locs → W p l e rm_X6_noLeg s m args below meth c H locs 0 0 Q (F0 m pc ls [.int v])) (H : Heap) (locs : List Loc) (ls : Array Slot) (hl : lv_has ls 2 [(0, .ref n_t), (1, .int x1)]) (hP : va_P (dC, dI) vwCl (wd_6d76fb k n_t n_text n_readPage n_page n_trial n_book n_kept n_isKept n_seenStation n_seenOther n_seenWide n_seenWas n_sines n_at n_column n_gram n_right n_work v_thrown v_textSize v_place v_stations v_readStations v_doings v_seen v_seed v_wide v_up v_low r_page) H) (hD : va_D A (wd_6d76fb k n_t n_text n_readPage n_page n_trial n_book n_kept n_isKept n_seenStation n_seenOther n_seenWide n_seenWas n_sines n_at n_column n_gram n_right n_work v_thrown v_textSize v_place v_stations v_readStations v_doings v_seen v_seed v_wide v_up v_low r_page)) (hS : va_S A s.heap H locs) (hm : f_X6_noLeg x1 r_page = some o_r) : W p l e rm_X6_noLeg s m args below meth c H locs 0 0 Q (F0 m 0 ls []) := by
  have hinX6 : ∀ w ∈ u_ws RX6 TX6 28, w ∈ wsX6_noLeg := by decide +kernel
  have k0 := hts (.fieldLink RX6 20 "CaveLegsModel" "page" "[I") (by decide +kernel)
  unfold f_X6_noLeg at hm
  refine lv_iload_n hx hb dX6_noLeg_0 rfl (lv_at hl 1 rfl) ?_
  refine g_i2l hx hb dX6_noLeg_1 ?_
  refine lv_lconst (v := (0 : Int64)) hx hb dX6_noLeg_2 (by decide) ?_
  refine lv_aload_n hx hb dX6_noLeg_3 rfl (lv_at hl 0 rfl) ?_
  refine va_get (D := (dC, dI)) (ci := 6) (v := .ref n_page) (C := RX6) (T := TX6) (N := 28) hx hb hts hinX6 hown hG.1 hP 0 rfl rfl 7 (by decide) k0 (fun _ h9 => h9) rfl dX6_noLeg_4 ?_
  refine lv_iconst (v := (0 : Int32)) hx hb dX6_noLeg_7 (by decide) ?_
  obtain ⟨hi1, hm⟩ := chk_some hm
  refine va_iald hx hb hG.1 hP 1 0 rfl rfl hi1 dX6_noLeg_8 ?_
  refine lv_iconst (v := (1 : Int32)) hx hb dX6_noLeg_9 (by decide) ?_
  refine lv_isub hx hb dX6_noLeg_10 ?_
  refine g_i2l hx hb dX6_noLeg_11 ?_
  obtain ⟨r2, e3, hm⟩ := bnd1_some hm
  refine g_calli (w2 := (wd_6d76fb k n_t n_text n_readPage n_page n_trial n_book n_kept n_isKept n_seenStation n_seenOther n_seenWide n_seenWas n_sines n_at n_column n_gram n_right n_work v_thrown v_textSize v_place v_stations v_readStations v_doings v_seen v_seed v_wide v_up v_low r_page)) (va_runS (As := [.long (Int32.toInt64 x1), .long (0 : Int64), .long (Int32.toInt64 ((r_page (Int32.toNatClampNeg (0 : Int32))) - (1 : Int32)))]) (rest := []) ⟨hx, hb, hml, hown, hts⟩ (m_X6_in l dC dI k H.size  (Int32.toInt64 x1) (0 : Int64) (Int32.toInt64 ((r_page (Int32.toNatClampNeg (0 : Int32))) - (1 : Int32))) e3) (va_cwS 3 hts gX6_noLeg_X6_in rfl rfl rfl (by decide +kernel) ⟨Nat.le_of_ble_eq_true rfl, Nat.le_of_ble_eq_true rfl⟩) (g_preS hG hP hD hS hA [] rfl (by decide)) rfl rfl hl.1 rfl (lv_room (Nat.le_of_ble_eq_true rfl)) dX6_noLeg_12 ⟨Nat.le_of_ble_eq_true rfl, Nat.le_of_ble_eq_true rfl⟩) hP hD hS hA [] [0, 1] [0, 1] rfl rfl (by decide) (by decide) rfl (by decide) (fun H locs hP hD hS => ?_)
  refine lv_if_ne (tgt := 22) hx hb dX6_noLeg_15 (by decide) (fun c4 => ?_) (fun c4 => ?_)
  · replace hm := ifn c4 hm
    refine lv_iconst (v := (0 : Int32)) hx hb dX6_noLeg_22 (by decide) ?_
    exact RET _ _ _ _ _ dX6_noLeg_23 hm (by decide +kernel) hP hD hS
  · replace hm := ifp c4 hm
    refine lv_iconst (v := (1 : Int32)) hx hb dX6_noLeg_18 (by decide) ?_
    refine lv_goto (tgt := 23) hx hb dX6_noLeg_19 (by decide) ?_
    exact RET _ _ _ _ _ dX6_noLeg_23 hm (by decide +kernel) hP hD hS
set_option maxRecDepth 100000 in
theorem m_X6_noLeg (l : Launch) (dC : Nat → ClassId) (dI : Nat → Nat → Nat) (k : Nat → ClassId) (sz : Nat) (n_t n_text n_readPage n_page n_trial n_book n_kept n_isKept n_seenStation n_seenOther n_seenWide n_seenWas n_sines n_at n_column n_gram n_right n_work : Nat) (v_thrown : Int32) (v_textSize : Int32) (v_place : Int32) (v_stations : Int32) (v_readStations : Int32) (v_doings : Int32) (v_seen : Int32) (v_seed : Int64) (v_wide : Int32) (v_up : Int64) (v_low : Int64) (r_page : Nat → Int32) (x1 : Int32) {o_r : Int32} (hm : f_X6_noLeg x1 r_page = some o_r) : Met l yX6_noLeg wsX6_noLeg rm_X6_noLeg (gPre dC dI k [.ref n_t, .int x1] sz (wd_6d76fb k n_t n_text n_readPage n_page n_trial n_book n_kept n_isKept n_seenStation n_seenOther n_seenWide n_seenWas n_sines n_at n_column n_gram n_right n_work v_thrown v_textSize v_place v_stations v_readStations v_doings v_seen v_seed v_wide v_up v_low r_page)) (gQI dC dI (va_A (wd_6d76fb k n_t n_text n_readPage n_page n_trial n_book n_kept n_isKept n_seenStation n_seenOther n_seenWide n_seenWas n_sines n_at n_column n_gram n_right n_work v_thrown v_textSize v_place v_stations v_readStations v_doings v_seen v_seed v_wide v_up v_low r_page) sz) o_r (wd_6d76fb k n_t n_text n_readPage n_page n_trial n_book n_kept n_isKept n_seenStation n_seenOther n_seenWide n_seenWas n_sines n_at n_column n_gram n_right n_work v_thrown v_textSize v_place v_stations v_readStations v_doings v_seen v_seed v_wide v_up v_low r_page)) 0 0 (va_A (wd_6d76fb k n_t n_text n_readPage n_page n_trial n_book n_kept n_isKept n_seenStation n_seenOther n_seenWide n_seenWas n_sines n_at n_column n_gram n_right n_work v_thrown v_textSize v_place v_stations v_readStations v_doings v_seen v_seed v_wide v_up v_low r_page) sz) := by
  refine g_entry (cc := cX6_noLeg) (maxL := 2) (ret := (some .boolean)) (lv := [(0, .ref n_t), (1, .int x1)]) (by decide +kernel) rfl (Nat.le_of_ble_eq_true rfl) rfl (fun p e s m below meth c ls hx hb hr hml hts hown hlk hnm hsz hG hA hP hD hS hl => ?_)
  exact k_X6_noLeg hx hb hml hts hown hG hA n_t n_text n_readPage n_page n_trial n_book n_kept n_isKept n_seenStation n_seenOther n_seenWide n_seenWas n_sines n_at n_column n_gram n_right n_work v_thrown v_textSize v_place v_stations v_readStations v_doings v_seen v_seed v_wide v_up v_low r_page x1 o_r (fun pc H locs ls v hd ho hz hP hD hS => by cases ho; exact g_iretz hx hb hr hlk hP hD hS hz hd) s.heap [] ls hl hP hD hS hm
end
section
set_option maxHeartbeats 4000000 in
set_option maxRecDepth 100000 in
theorem k_X6_all {p : Program} {l : Launch} {e : Env} {s : State} {m : MethodId} {args : Array Value} {below : List Frame} {meth : Method} {c : Code} {A : Nat → Prop} {Q : State → Prop} {dC : Nat → ClassId} {dI : Nat → Nat → Nat} {k : Nat → ClassId} (hx : p.tables.exec = Jvm.exec) (hb : c.code = cX6_all) (hml : c.maxLocals = 1) (hts : ∀ w ∈ wsX6_all, w.before args s = true) (hown : s.vm.findClass RX6 = some m.cls) (hG : gK dC dI k A s) (hA : ∀ q : Nat, s.heap.size ≤ q → A q) (n_p0 : Nat) (r_p0 : Nat → Int32) (o_r : Int32) (RET : ∀ (pc : Nat) (H : Heap) (locs : List Loc) (ls : Array Slot) (v : Int32), decode cX6_all pc = .ok (.ireturn, 1) → some v = some o_r → va_P (dC, dI) vwCl (wd_906db5 k n_p0 r_p0) H → va_D A (wd_906db5 k n_p0 r_p0) → va_S A s.heap H locs → W p l e rm_X6_all s m args below meth c H locs 0 0 Q (F0 m pc ls [.int v])) (H : Heap) (locs : List Loc) (ls : Array Slot) (hl : lv_has ls 1 [(0, .ref n_p0)]) (hP : va_P (dC, dI) vwCl (wd_906db5 k n_p0 r_p0) H) (hD : va_D A (wd_906db5 k n_p0 r_p0)) (hS : va_S A s.heap H locs) (hm : f_X6_all r_p0 = some o_r) : W p l e rm_X6_all s m args below meth c H locs 0 0 Q (F0 m 0 ls []) := by
  unfold f_X6_all at hm
  refine lv_iconst (v := (1 : Int32)) hx hb dX6_all_0 (by decide) ?_
  refine lv_aload_n hx hb dX6_all_1 rfl (lv_at hl 0 rfl) ?_
  refine lv_iconst (v := (0 : Int32)) hx hb dX6_all_2 (by decide) ?_
  obtain ⟨hi1, hm⟩ := chk_some hm
  refine va_iald hx hb hG.1 hP 0 0 rfl rfl hi1 dX6_all_3 ?_
  refine g_ishl hx hb dX6_all_4 ?_
  refine lv_iconst (v := (1 : Int32)) hx hb dX6_all_5 (by decide) ?_
  refine lv_isub hx hb dX6_all_6 ?_
  exact RET _ _ _ _ _ dX6_all_7 hm hP hD hS
set_option maxRecDepth 100000 in
theorem m_X6_all (l : Launch) (dC : Nat → ClassId) (dI : Nat → Nat → Nat) (k : Nat → ClassId) (sz : Nat) (n_p0 : Nat) (r_p0 : Nat → Int32) {o_r : Int32} (hm : f_X6_all r_p0 = some o_r) : Met l yX6_all wsX6_all rm_X6_all (gPre dC dI k [.ref n_p0] sz (wd_906db5 k n_p0 r_p0)) (gQI dC dI (va_A (wd_906db5 k n_p0 r_p0) sz) o_r (wd_906db5 k n_p0 r_p0)) 0 0 (va_A (wd_906db5 k n_p0 r_p0) sz) := by
  refine g_entry (cc := cX6_all) (maxL := 1) (ret := (some .int)) (lv := [(0, .ref n_p0)]) (by decide +kernel) rfl (Nat.le_of_ble_eq_true rfl) rfl (fun p e s m below meth c ls hx hb hr hml hts hown hlk hnm hsz hG hA hP hD hS hl => ?_)
  exact k_X6_all hx hb hml hts hown hG hA n_p0 r_p0 o_r (fun pc H locs ls v hd ho hP hD hS => by cases ho; exact g_ireti hx hb hr hlk hP hD hS hd) s.heap [] ls hl hP hD hS hm
end
section
set_option maxHeartbeats 4000000 in
set_option maxRecDepth 100000 in
theorem k_X6_of {p : Program} {l : Launch} {e : Env} {s : State} {m : MethodId} {args : Array Value} {below : List Frame} {meth : Method} {c : Code} {A : Nat → Prop} {Q : State → Prop} {dC : Nat → ClassId} {dI : Nat → Nat → Nat} {k : Nat → ClassId} (hx : p.tables.exec = Jvm.exec) (hb : c.code = cX6_of) (hml : c.maxLocals = 3) (hts : ∀ w ∈ wsX6_of, w.before args s = true) (hown : s.vm.findClass RX6 = some m.cls) (hG : gK dC dI k A s) (hA : ∀ q : Nat, s.heap.size ≤ q → A q) (n_p0 : Nat) (r_p0 : Nat → Int32) (x1 : Int32) (x2 : Int32) (o_r : Int32) (RET : ∀ (pc : Nat) (H : Heap) (locs : List Loc) (ls : Array Slot) (v : Int32), decode cX6_of pc = .ok (.ireturn, 1) → some v = some o_r → va_P (dC, dI) vwCl (wd_906db5 k n_p0 r_p0) H → va_D A (wd_906db5 k n_p0 r_p0) → va_S A s.heap H locs → W p l e rm_X6_of s m args below meth c H locs 0 0 Q (F0 m pc ls [.int v])) (H : Heap) (locs : List Loc) (ls : Array Slot) (hl : lv_has ls 3 [(0, .ref n_p0), (1, .int x1), (2, .int x2)]) (hP : va_P (dC, dI) vwCl (wd_906db5 k n_p0 r_p0) H) (hD : va_D A (wd_906db5 k n_p0 r_p0)) (hS : va_S A s.heap H locs) (hm : f_X6_of x1 x2 r_p0 = some o_r) : W p l e rm_X6_of s m args below meth c H locs 0 0 Q (F0 m 0 ls []) := by
  unfold f_X6_of at hm
  refine lv_aload_n hx hb dX6_of_0 rfl (lv_at hl 0 rfl) ?_
  refine lv_iconst (v := (2 : Int32)) hx hb dX6_of_1 (by decide) ?_
  refine lv_bipush (v := (6 : Int32)) hx hb dX6_of_2 (by decide) ?_
  refine lv_iload_n hx hb dX6_of_4 rfl (lv_at hl 1 rfl) ?_
  refine lv_imul hx hb dX6_of_5 ?_
  refine lv_iadd hx hb dX6_of_6 ?_
  refine lv_iload_n hx hb dX6_of_7 rfl (lv_at hl 2 rfl) ?_
  refine lv_iadd hx hb dX6_of_8 ?_
  obtain ⟨hi1, hm⟩ := chk_some hm
  refine va_iald hx hb hG.1 hP 0 0 rfl rfl hi1 dX6_of_9 ?_
  exact RET _ _ _ _ _ dX6_of_10 hm hP hD hS
set_option maxRecDepth 100000 in
theorem m_X6_of (l : Launch) (dC : Nat → ClassId) (dI : Nat → Nat → Nat) (k : Nat → ClassId) (sz : Nat) (n_p0 : Nat) (r_p0 : Nat → Int32) (x1 : Int32) (x2 : Int32) {o_r : Int32} (hm : f_X6_of x1 x2 r_p0 = some o_r) : Met l yX6_of wsX6_of rm_X6_of (gPre dC dI k [.ref n_p0, .int x1, .int x2] sz (wd_906db5 k n_p0 r_p0)) (gQI dC dI (va_A (wd_906db5 k n_p0 r_p0) sz) o_r (wd_906db5 k n_p0 r_p0)) 0 0 (va_A (wd_906db5 k n_p0 r_p0) sz) := by
  refine g_entry (cc := cX6_of) (maxL := 3) (ret := (some .int)) (lv := [(0, .ref n_p0), (1, .int x1), (2, .int x2)]) (by decide +kernel) rfl (Nat.le_of_ble_eq_true rfl) rfl (fun p e s m below meth c ls hx hb hr hml hts hown hlk hnm hsz hG hA hP hD hS hl => ?_)
  exact k_X6_of hx hb hml hts hown hG hA n_p0 r_p0 x1 x2 o_r (fun pc H locs ls v hd ho hP hD hS => by cases ho; exact g_ireti hx hb hr hlk hP hD hS hd) s.heap [] ls hl hP hD hS hm
end
section
set_option maxHeartbeats 4000000 in
set_option maxRecDepth 100000 in
theorem k_X6_write {p : Program} {l : Launch} {e : Env} {s : State} {m : MethodId} {args : Array Value} {below : List Frame} {meth : Method} {c : Code} {A : Nat → Prop} {Q : State → Prop} {dC : Nat → ClassId} {dI : Nat → Nat → Nat} {k : Nat → ClassId} (hx : p.tables.exec = Jvm.exec) (hb : c.code = cX6_write) (hml : c.maxLocals = 2) (hts : ∀ w ∈ wsX6_write, w.before args s = true) (hown : s.vm.findClass RX6 = some m.cls) (hG : gK dC dI k A s) (hA : ∀ q : Nat, s.heap.size ≤ q → A q) (n_t n_text n_readPage n_page n_trial n_book n_kept n_isKept n_seenStation n_seenOther n_seenWide n_seenWas n_sines n_at n_column n_gram n_right n_work : Nat) (v_thrown : Int32) (v_textSize : Int32) (v_place : Int32) (v_stations : Int32) (v_readStations : Int32) (v_doings : Int32) (v_seen : Int32) (v_seed : Int64) (v_wide : Int32) (v_up : Int64) (v_low : Int64) (r_text : Nat → Int32) (x1 : Int32) (o_r : Int32) (o_v_thrown : (Int32)) (o_v_textSize : (Int32)) (o_r_text : (Nat → Int32)) (RET : ∀ (pc : Nat) (H : Heap) (locs : List Loc) (ls : Array Slot) (v : Int32) (q_v_thrown : Int32) (q_v_textSize : Int32) (q_r_text : Nat → Int32), decode cX6_write pc = .ok (.ireturn, 1) → some (v, q_v_thrown, q_v_textSize, q_r_text) = some (o_r, o_v_thrown, o_v_textSize, o_r_text) → va_P (dC, dI) vwCl (wd_3aea68 k n_t n_text n_readPage n_page n_trial n_book n_kept n_isKept n_seenStation n_seenOther n_seenWide n_seenWas n_sines n_at n_column n_gram n_right n_work q_v_thrown q_v_textSize v_place v_stations v_readStations v_doings v_seen v_seed v_wide v_up v_low q_r_text) H → va_D A (wd_3aea68 k n_t n_text n_readPage n_page n_trial n_book n_kept n_isKept n_seenStation n_seenOther n_seenWide n_seenWas n_sines n_at n_column n_gram n_right n_work q_v_thrown q_v_textSize v_place v_stations v_readStations v_doings v_seen v_seed v_wide v_up v_low q_r_text) → va_S A s.heap H locs → W p l e rm_X6_write s m args below meth c H locs 0 0 Q (F0 m pc ls [.int v])) (H : Heap) (locs : List Loc) (ls : Array Slot) (hl : lv_has ls 2 [(0, .ref n_t), (1, .int x1)]) (hP : va_P (dC, dI) vwCl (wd_3aea68 k n_t n_text n_readPage n_page n_trial n_book n_kept n_isKept n_seenStation n_seenOther n_seenWide n_seenWas n_sines n_at n_column n_gram n_right n_work v_thrown v_textSize v_place v_stations v_readStations v_doings v_seen v_seed v_wide v_up v_low r_text) H) (hD : va_D A (wd_3aea68 k n_t n_text n_readPage n_page n_trial n_book n_kept n_isKept n_seenStation n_seenOther n_seenWide n_seenWas n_sines n_at n_column n_gram n_right n_work v_thrown v_textSize v_place v_stations v_readStations v_doings v_seen v_seed v_wide v_up v_low r_text)) (hS : va_S A s.heap H locs) (hm : f_X6_write x1 v_thrown v_textSize r_text = some (o_r, o_v_thrown, o_v_textSize, o_r_text)) : W p l e rm_X6_write s m args below meth c H locs 0 0 Q (F0 m 0 ls []) := by
  have hinX6 : ∀ w ∈ u_ws RX6 TX6 28, w ∈ wsX6_write := by decide +kernel
  have k0 := hts (.fieldLink RX6 67 "CaveLegsModel" "thrown" "I") (by decide +kernel)
  have k1 := hts (.constantLong RX6 74 (255)) (by decide +kernel)
  have k2 := hts (.fieldLink RX6 76 "CaveLegsModel" "textSize" "I") (by decide +kernel)
  have k3 := hts (.fieldLink RX6 7 "CaveLegsModel" "text" "[I") (by decide +kernel)
  unfold f_X6_write at hm
  refine lv_aload_n hx hb dX6_write_0 rfl (lv_at hl 0 rfl) ?_
  refine lv_iconst (v := (0 : Int32)) hx hb dX6_write_1 (by decide) ?_
  refine va_put (D := (dC, dI)) (ci := 6) (v := .int (0 : Int32)) (ty := .int) (C := RX6) (T := TX6) (N := 28) hx hb hts hinX6 tyX6 tyX6_ok nmX6 hown hG.1 hP hD hS 0 rfl rfl 0 (by decide) k0 (fun _ h9 => h9) rfl (by decide +kernel) rfl rfl (Nat.le_of_ble_eq_true rfl) dX6_write_2 (fun H locs hP hD hS => ?_)
  replace hP : va_P (dC, dI) vwCl (wd_3aea68 k n_t n_text n_readPage n_page n_trial n_book n_kept n_isKept n_seenStation n_seenOther n_seenWide n_seenWas n_sines n_at n_column n_gram n_right n_work (0 : Int32) v_textSize v_place v_stations v_readStations v_doings v_seen v_seed v_wide v_up v_low r_text) H := hP
  replace hD : va_D A (wd_3aea68 k n_t n_text n_readPage n_page n_trial n_book n_kept n_isKept n_seenStation n_seenOther n_seenWide n_seenWas n_sines n_at n_column n_gram n_right n_work (0 : Int32) v_textSize v_place v_stations v_readStations v_doings v_seen v_seed v_wide v_up v_low r_text) := hD
  refine lv_iload_n hx hb dX6_write_5 rfl (lv_at hl 1 rfl) ?_
  refine g_i2l hx hb dX6_write_6 ?_
  refine lv_lconst (v := (0 : Int64)) hx hb dX6_write_7 (by decide) ?_
  refine lv_ldc2 (v := (255 : Int64)) hx hb hown k1 dX6_write_8 ?_
  obtain ⟨r1, e2, hm⟩ := bnd1_some hm
  refine g_calli (w2 := (wd_3aea68 k n_t n_text n_readPage n_page n_trial n_book n_kept n_isKept n_seenStation n_seenOther n_seenWide n_seenWas n_sines n_at n_column n_gram n_right n_work (0 : Int32) v_textSize v_place v_stations v_readStations v_doings v_seen v_seed v_wide v_up v_low r_text)) (va_runS (As := [.long (Int32.toInt64 x1), .long (0 : Int64), .long (255 : Int64)]) (rest := []) ⟨hx, hb, hml, hown, hts⟩ (m_X6_in l dC dI k H.size  (Int32.toInt64 x1) (0 : Int64) (255 : Int64) e2) (va_cwS 3 hts gX6_write_X6_in rfl rfl rfl (by decide +kernel) ⟨Nat.le_of_ble_eq_true rfl, Nat.le_of_ble_eq_true rfl⟩) (g_preS hG hP hD hS hA [] rfl (by decide)) rfl rfl hl.1 rfl (lv_room (Nat.le_of_ble_eq_true rfl)) dX6_write_11 ⟨Nat.le_of_ble_eq_true rfl, Nat.le_of_ble_eq_true rfl⟩) hP hD hS hA [] [0, 1] [0, 1] rfl rfl (by decide) (by decide) rfl (by decide) (fun H locs hP hD hS => ?_)
  refine lv_if_ne (tgt := 20) hx hb dX6_write_14 (by decide) (fun c3 => ?_) (fun c3 => ?_)
  · replace hm := ifn c3 hm
    refine lv_aload_n hx hb dX6_write_20 rfl (lv_at hl 0 rfl) ?_
    refine va_get (D := (dC, dI)) (ci := 6) (v := .int v_textSize) (C := RX6) (T := TX6) (N := 28) hx hb hts hinX6 hown hG.1 hP 0 rfl rfl 2 (by decide) k2 (fun _ h9 => h9) rfl dX6_write_21 ?_
    refine lv_bipush (v := (70 : Int32)) hx hb dX6_write_24 (by decide) ?_
    refine lv_icmp_ne (tgt := 32) hx hb dX6_write_26 (by decide) (fun c4 => ?_) (fun c4 => ?_)
    · replace hm := ifn c4 hm
      refine lv_aload_n hx hb dX6_write_32 rfl (lv_at hl 0 rfl) ?_
      refine va_get (D := (dC, dI)) (ci := 6) (v := .ref n_text) (C := RX6) (T := TX6) (N := 28) hx hb hts hinX6 hown hG.1 hP 0 rfl rfl 1 (by decide) k3 (fun _ h9 => h9) rfl dX6_write_33 ?_
      refine lv_aload_n hx hb dX6_write_36 rfl (lv_at hl 0 rfl) ?_
      refine va_get (D := (dC, dI)) (ci := 6) (v := .int v_textSize) (C := RX6) (T := TX6) (N := 28) hx hb hts hinX6 hown hG.1 hP 0 rfl rfl 2 (by decide) k2 (fun _ h9 => h9) rfl dX6_write_37 ?_
      refine lv_iload_n hx hb dX6_write_40 rfl (lv_at hl 1 rfl) ?_
      obtain ⟨hi5, hm⟩ := chk_some hm
      refine va_iast hx hb hG.1 hP hD hS 1 0 rfl rfl hi5 dX6_write_41 (fun H locs hP hD hS => ?_)
      replace hP : va_P (dC, dI) vwCl (wd_3aea68 k n_t n_text n_readPage n_page n_trial n_book n_kept n_isKept n_seenStation n_seenOther n_seenWide n_seenWas n_sines n_at n_column n_gram n_right n_work (0 : Int32) v_textSize v_place v_stations v_readStations v_doings v_seen v_seed v_wide v_up v_low (upd r_text (Int32.toNatClampNeg v_textSize) x1)) H := hP
      replace hD : va_D A (wd_3aea68 k n_t n_text n_readPage n_page n_trial n_book n_kept n_isKept n_seenStation n_seenOther n_seenWide n_seenWas n_sines n_at n_column n_gram n_right n_work (0 : Int32) v_textSize v_place v_stations v_readStations v_doings v_seen v_seed v_wide v_up v_low (upd r_text (Int32.toNatClampNeg v_textSize) x1)) := hD
      refine lv_aload_n hx hb dX6_write_42 rfl (lv_at hl 0 rfl) ?_
      refine lv_dup hx hb dX6_write_43 rfl ?_
      refine va_get (D := (dC, dI)) (ci := 6) (v := .int v_textSize) (C := RX6) (T := TX6) (N := 28) hx hb hts hinX6 hown hG.1 hP 0 rfl rfl 2 (by decide) k2 (fun _ h9 => h9) rfl dX6_write_44 ?_
      refine lv_iconst (v := (1 : Int32)) hx hb dX6_write_47 (by decide) ?_
      refine lv_iadd hx hb dX6_write_48 ?_
      refine lv_topi (fun t6 et6 => ?_)
      replace hm := (nmd_eq et6).trans hm
      refine va_put (D := (dC, dI)) (ci := 6) (v := .int t6) (ty := .int) (C := RX6) (T := TX6) (N := 28) hx hb hts hinX6 tyX6 tyX6_ok nmX6 hown hG.1 hP hD hS 0 rfl rfl 2 (by decide) k2 (fun _ h9 => h9) rfl (by decide +kernel) rfl rfl (Nat.le_of_ble_eq_true rfl) dX6_write_49 (fun H locs hP hD hS => ?_)
      replace hP : va_P (dC, dI) vwCl (wd_3aea68 k n_t n_text n_readPage n_page n_trial n_book n_kept n_isKept n_seenStation n_seenOther n_seenWide n_seenWas n_sines n_at n_column n_gram n_right n_work (0 : Int32) t6 v_place v_stations v_readStations v_doings v_seen v_seed v_wide v_up v_low (upd r_text (Int32.toNatClampNeg v_textSize) x1)) H := hP
      replace hD : va_D A (wd_3aea68 k n_t n_text n_readPage n_page n_trial n_book n_kept n_isKept n_seenStation n_seenOther n_seenWide n_seenWas n_sines n_at n_column n_gram n_right n_work (0 : Int32) t6 v_place v_stations v_readStations v_doings v_seen v_seed v_wide v_up v_low (upd r_text (Int32.toNatClampNeg v_textSize) x1)) := hD
      refine lv_aload_n hx hb dX6_write_52 rfl (lv_at hl 0 rfl) ?_
      refine va_get (D := (dC, dI)) (ci := 6) (v := .int t6) (C := RX6) (T := TX6) (N := 28) hx hb hts hinX6 hown hG.1 hP 0 rfl rfl 2 (by decide) k2 (fun _ h9 => h9) rfl dX6_write_53 ?_
      exact RET _ _ _ _ _ _ _ _ dX6_write_56 hm hP hD hS
    · replace hm := ifp c4 hm
      refine lv_bipush (v := (-4 : Int32)) hx hb dX6_write_29 (by decide) ?_
      exact RET _ _ _ _ _ _ _ _ dX6_write_31 hm hP hD hS
  · replace hm := ifp c3 hm
    refine lv_bipush (v := (-2 : Int32)) hx hb dX6_write_17 (by decide) ?_
    exact RET _ _ _ _ _ _ _ _ dX6_write_19 hm hP hD hS
set_option maxRecDepth 100000 in
theorem m_X6_write (l : Launch) (dC : Nat → ClassId) (dI : Nat → Nat → Nat) (k : Nat → ClassId) (sz : Nat) (n_t n_text n_readPage n_page n_trial n_book n_kept n_isKept n_seenStation n_seenOther n_seenWide n_seenWas n_sines n_at n_column n_gram n_right n_work : Nat) (v_thrown : Int32) (v_textSize : Int32) (v_place : Int32) (v_stations : Int32) (v_readStations : Int32) (v_doings : Int32) (v_seen : Int32) (v_seed : Int64) (v_wide : Int32) (v_up : Int64) (v_low : Int64) (r_text : Nat → Int32) (x1 : Int32) {o_r : Int32} {o_v_thrown : (Int32)} {o_v_textSize : (Int32)} {o_r_text : (Nat → Int32)} (hm : f_X6_write x1 v_thrown v_textSize r_text = some (o_r, o_v_thrown, o_v_textSize, o_r_text)) : Met l yX6_write wsX6_write rm_X6_write (gPre dC dI k [.ref n_t, .int x1] sz (wd_3aea68 k n_t n_text n_readPage n_page n_trial n_book n_kept n_isKept n_seenStation n_seenOther n_seenWide n_seenWas n_sines n_at n_column n_gram n_right n_work v_thrown v_textSize v_place v_stations v_readStations v_doings v_seen v_seed v_wide v_up v_low r_text)) (gQI dC dI (va_A (wd_3aea68 k n_t n_text n_readPage n_page n_trial n_book n_kept n_isKept n_seenStation n_seenOther n_seenWide n_seenWas n_sines n_at n_column n_gram n_right n_work v_thrown v_textSize v_place v_stations v_readStations v_doings v_seen v_seed v_wide v_up v_low r_text) sz) o_r (wd_3aea68 k n_t n_text n_readPage n_page n_trial n_book n_kept n_isKept n_seenStation n_seenOther n_seenWide n_seenWas n_sines n_at n_column n_gram n_right n_work o_v_thrown o_v_textSize v_place v_stations v_readStations v_doings v_seen v_seed v_wide v_up v_low o_r_text)) 0 0 (va_A (wd_3aea68 k n_t n_text n_readPage n_page n_trial n_book n_kept n_isKept n_seenStation n_seenOther n_seenWide n_seenWas n_sines n_at n_column n_gram n_right n_work v_thrown v_textSize v_place v_stations v_readStations v_doings v_seen v_seed v_wide v_up v_low r_text) sz) := by
  refine g_entry (cc := cX6_write) (maxL := 2) (ret := (some .int)) (lv := [(0, .ref n_t), (1, .int x1)]) (by decide +kernel) rfl (Nat.le_of_ble_eq_true rfl) rfl (fun p e s m below meth c ls hx hb hr hml hts hown hlk hnm hsz hG hA hP hD hS hl => ?_)
  exact k_X6_write hx hb hml hts hown hG hA n_t n_text n_readPage n_page n_trial n_book n_kept n_isKept n_seenStation n_seenOther n_seenWide n_seenWas n_sines n_at n_column n_gram n_right n_work v_thrown v_textSize v_place v_stations v_readStations v_doings v_seen v_seed v_wide v_up v_low r_text x1 o_r o_v_thrown o_v_textSize o_r_text (fun pc H locs ls v q_v_thrown q_v_textSize q_r_text hd ho hP hD hS => by cases ho; exact g_ireti hx hb hr hlk hP hD hS hd) s.heap [] ls hl hP hD hS hm
end
section
set_option maxHeartbeats 4000000 in
set_option maxRecDepth 100000 in
theorem k_X6_wipe {p : Program} {l : Launch} {e : Env} {s : State} {m : MethodId} {args : Array Value} {below : List Frame} {meth : Method} {c : Code} {A : Nat → Prop} {Q : State → Prop} {dC : Nat → ClassId} {dI : Nat → Nat → Nat} {k : Nat → ClassId} (hx : p.tables.exec = Jvm.exec) (hb : c.code = cX6_wipe) (hml : c.maxLocals = 2) (hts : ∀ w ∈ wsX6_wipe, w.before args s = true) (hown : s.vm.findClass RX6 = some m.cls) (hG : gK dC dI k A s) (hA : ∀ q : Nat, s.heap.size ≤ q → A q) (n_t n_text n_readPage n_page n_trial n_book n_kept n_isKept n_seenStation n_seenOther n_seenWide n_seenWas n_sines n_at n_column n_gram n_right n_work : Nat) (v_thrown : Int32) (v_textSize : Int32) (v_place : Int32) (v_stations : Int32) (v_readStations : Int32) (v_doings : Int32) (v_seen : Int32) (v_seed : Int64) (v_wide : Int32) (v_up : Int64) (v_low : Int64) (o_r : Int32) (o_v_thrown : (Int32)) (o_v_textSize : (Int32)) (RET : ∀ (pc : Nat) (H : Heap) (locs : List Loc) (ls : Array Slot) (v : Int32) (q_v_thrown : Int32) (q_v_textSize : Int32), decode cX6_wipe pc = .ok (.ireturn, 1) → some (v, q_v_thrown, q_v_textSize) = some (o_r, o_v_thrown, o_v_textSize) → va_P (dC, dI) vwCl (wd_471624 k n_t n_text n_readPage n_page n_trial n_book n_kept n_isKept n_seenStation n_seenOther n_seenWide n_seenWas n_sines n_at n_column n_gram n_right n_work q_v_thrown q_v_textSize v_place v_stations v_readStations v_doings v_seen v_seed v_wide v_up v_low) H → va_D A (wd_471624 k n_t n_text n_readPage n_page n_trial n_book n_kept n_isKept n_seenStation n_seenOther n_seenWide n_seenWas n_sines n_at n_column n_gram n_right n_work q_v_thrown q_v_textSize v_place v_stations v_readStations v_doings v_seen v_seed v_wide v_up v_low) → va_S A s.heap H locs → W p l e rm_X6_wipe s m args below meth c H locs 0 0 Q (F0 m pc ls [.int v])) (H : Heap) (locs : List Loc) (ls : Array Slot) (hl : lv_has ls 2 [(0, .ref n_t)]) (hP : va_P (dC, dI) vwCl (wd_471624 k n_t n_text n_readPage n_page n_trial n_book n_kept n_isKept n_seenStation n_seenOther n_seenWide n_seenWas n_sines n_at n_column n_gram n_right n_work v_thrown v_textSize v_place v_stations v_readStations v_doings v_seen v_seed v_wide v_up v_low) H) (hD : va_D A (wd_471624 k n_t n_text n_readPage n_page n_trial n_book n_kept n_isKept n_seenStation n_seenOther n_seenWide n_seenWas n_sines n_at n_column n_gram n_right n_work v_thrown v_textSize v_place v_stations v_readStations v_doings v_seen v_seed v_wide v_up v_low)) (hS : va_S A s.heap H locs) (hm : f_X6_wipe v_thrown v_textSize = some (o_r, o_v_thrown, o_v_textSize)) : W p l e rm_X6_wipe s m args below meth c H locs 0 0 Q (F0 m 0 ls []) := by
  have hinX6 : ∀ w ∈ u_ws RX6 TX6 28, w ∈ wsX6_wipe := by decide +kernel
  have k0 := hts (.fieldLink RX6 67 "CaveLegsModel" "thrown" "I") (by decide +kernel)
  have k1 := hts (.fieldLink RX6 76 "CaveLegsModel" "textSize" "I") (by decide +kernel)
  unfold f_X6_wipe at hm
  refine lv_aload_n hx hb dX6_wipe_0 rfl (lv_at hl 0 rfl) ?_
  refine lv_iconst (v := (0 : Int32)) hx hb dX6_wipe_1 (by decide) ?_
  refine va_put (D := (dC, dI)) (ci := 6) (v := .int (0 : Int32)) (ty := .int) (C := RX6) (T := TX6) (N := 28) hx hb hts hinX6 tyX6 tyX6_ok nmX6 hown hG.1 hP hD hS 0 rfl rfl 0 (by decide) k0 (fun _ h9 => h9) rfl (by decide +kernel) rfl rfl (Nat.le_of_ble_eq_true rfl) dX6_wipe_2 (fun H locs hP hD hS => ?_)
  replace hP : va_P (dC, dI) vwCl (wd_471624 k n_t n_text n_readPage n_page n_trial n_book n_kept n_isKept n_seenStation n_seenOther n_seenWide n_seenWas n_sines n_at n_column n_gram n_right n_work (0 : Int32) v_textSize v_place v_stations v_readStations v_doings v_seen v_seed v_wide v_up v_low) H := hP
  replace hD : va_D A (wd_471624 k n_t n_text n_readPage n_page n_trial n_book n_kept n_isKept n_seenStation n_seenOther n_seenWide n_seenWas n_sines n_at n_column n_gram n_right n_work (0 : Int32) v_textSize v_place v_stations v_readStations v_doings v_seen v_seed v_wide v_up v_low) := hD
  refine lv_aload_n hx hb dX6_wipe_5 rfl (lv_at hl 0 rfl) ?_
  refine va_get (D := (dC, dI)) (ci := 6) (v := .int v_textSize) (C := RX6) (T := TX6) (N := 28) hx hb hts hinX6 hown hG.1 hP 0 rfl rfl 2 (by decide) k1 (fun _ h9 => h9) rfl dX6_wipe_6 ?_
  refine lv_istore_n (lv' := [(1, .int v_textSize), (0, .ref n_t)]) hx hb dX6_wipe_9 rfl hl (by decide) rfl (fun ls hl => ?_)
  refine lv_aload_n hx hb dX6_wipe_10 rfl (lv_at hl 1 rfl) ?_
  refine lv_iconst (v := (0 : Int32)) hx hb dX6_wipe_11 (by decide) ?_
  refine va_put (D := (dC, dI)) (ci := 6) (v := .int (0 : Int32)) (ty := .int) (C := RX6) (T := TX6) (N := 28) hx hb hts hinX6 tyX6 tyX6_ok nmX6 hown hG.1 hP hD hS 0 rfl rfl 2 (by decide) k1 (fun _ h9 => h9) rfl (by decide +kernel) rfl rfl (Nat.le_of_ble_eq_true rfl) dX6_wipe_12 (fun H locs hP hD hS => ?_)
  replace hP : va_P (dC, dI) vwCl (wd_471624 k n_t n_text n_readPage n_page n_trial n_book n_kept n_isKept n_seenStation n_seenOther n_seenWide n_seenWas n_sines n_at n_column n_gram n_right n_work (0 : Int32) (0 : Int32) v_place v_stations v_readStations v_doings v_seen v_seed v_wide v_up v_low) H := hP
  replace hD : va_D A (wd_471624 k n_t n_text n_readPage n_page n_trial n_book n_kept n_isKept n_seenStation n_seenOther n_seenWide n_seenWas n_sines n_at n_column n_gram n_right n_work (0 : Int32) (0 : Int32) v_place v_stations v_readStations v_doings v_seen v_seed v_wide v_up v_low) := hD
  refine lv_iload_n hx hb dX6_wipe_15 rfl (lv_at hl 0 rfl) ?_
  exact RET _ _ _ _ _ _ _ dX6_wipe_16 hm hP hD hS
set_option maxRecDepth 100000 in
theorem m_X6_wipe (l : Launch) (dC : Nat → ClassId) (dI : Nat → Nat → Nat) (k : Nat → ClassId) (sz : Nat) (n_t n_text n_readPage n_page n_trial n_book n_kept n_isKept n_seenStation n_seenOther n_seenWide n_seenWas n_sines n_at n_column n_gram n_right n_work : Nat) (v_thrown : Int32) (v_textSize : Int32) (v_place : Int32) (v_stations : Int32) (v_readStations : Int32) (v_doings : Int32) (v_seen : Int32) (v_seed : Int64) (v_wide : Int32) (v_up : Int64) (v_low : Int64) {o_r : Int32} {o_v_thrown : (Int32)} {o_v_textSize : (Int32)} (hm : f_X6_wipe v_thrown v_textSize = some (o_r, o_v_thrown, o_v_textSize)) : Met l yX6_wipe wsX6_wipe rm_X6_wipe (gPre dC dI k [.ref n_t] sz (wd_471624 k n_t n_text n_readPage n_page n_trial n_book n_kept n_isKept n_seenStation n_seenOther n_seenWide n_seenWas n_sines n_at n_column n_gram n_right n_work v_thrown v_textSize v_place v_stations v_readStations v_doings v_seen v_seed v_wide v_up v_low)) (gQI dC dI (va_A (wd_471624 k n_t n_text n_readPage n_page n_trial n_book n_kept n_isKept n_seenStation n_seenOther n_seenWide n_seenWas n_sines n_at n_column n_gram n_right n_work v_thrown v_textSize v_place v_stations v_readStations v_doings v_seen v_seed v_wide v_up v_low) sz) o_r (wd_471624 k n_t n_text n_readPage n_page n_trial n_book n_kept n_isKept n_seenStation n_seenOther n_seenWide n_seenWas n_sines n_at n_column n_gram n_right n_work o_v_thrown o_v_textSize v_place v_stations v_readStations v_doings v_seen v_seed v_wide v_up v_low)) 0 0 (va_A (wd_471624 k n_t n_text n_readPage n_page n_trial n_book n_kept n_isKept n_seenStation n_seenOther n_seenWide n_seenWas n_sines n_at n_column n_gram n_right n_work v_thrown v_textSize v_place v_stations v_readStations v_doings v_seen v_seed v_wide v_up v_low) sz) := by
  refine g_entry (cc := cX6_wipe) (maxL := 2) (ret := (some .int)) (lv := [(0, .ref n_t)]) (by decide +kernel) rfl (Nat.le_of_ble_eq_true rfl) rfl (fun p e s m below meth c ls hx hb hr hml hts hown hlk hnm hsz hG hA hP hD hS hl => ?_)
  exact k_X6_wipe hx hb hml hts hown hG hA n_t n_text n_readPage n_page n_trial n_book n_kept n_isKept n_seenStation n_seenOther n_seenWide n_seenWas n_sines n_at n_column n_gram n_right n_work v_thrown v_textSize v_place v_stations v_readStations v_doings v_seen v_seed v_wide v_up v_low o_r o_v_thrown o_v_textSize (fun pc H locs ls v q_v_thrown q_v_textSize hd ho hP hD hS => by cases ho; exact g_ireti hx hb hr hlk hP hD hS hd) s.heap [] ls hl hP hD hS hm
end
section
set_option maxHeartbeats 4000000 in
set_option maxRecDepth 100000 in
theorem k_X6_figure {p : Program} {l : Launch} {e : Env} {s : State} {m : MethodId} {args : Array Value} {below : List Frame} {meth : Method} {c : Code} {A : Nat → Prop} {Q : State → Prop} {dC : Nat → ClassId} {dI : Nat → Nat → Nat} {k : Nat → ClassId} (hx : p.tables.exec = Jvm.exec) (hb : c.code = cX6_figure) (hml : c.maxLocals = 4) (hts : ∀ w ∈ wsX6_figure, w.before args s = true) (hown : s.vm.findClass RX6 = some m.cls) (hG : gK dC dI k A s) (hA : ∀ q : Nat, s.heap.size ≤ q → A q) (n_t n_text n_readPage n_page n_trial n_book n_kept n_isKept n_seenStation n_seenOther n_seenWide n_seenWas n_sines n_at n_column n_gram n_right n_work : Nat) (v_thrown : Int32) (v_textSize : Int32) (v_place : Int32) (v_stations : Int32) (v_readStations : Int32) (v_doings : Int32) (v_seen : Int32) (v_seed : Int64) (v_wide : Int32) (v_up : Int64) (v_low : Int64) (r_text : Nat → Int32) (x1 : Int32) (x2 : Int32) (o_r : Int32) (o_v_place : (Int32)) (RET : ∀ (pc : Nat) (H : Heap) (locs : List Loc) (ls : Array Slot) (v : Int32) (q_v_place : Int32), decode cX6_figure pc = .ok (.ireturn, 1) → some (v, q_v_place) = some (o_r, o_v_place) → va_P (dC, dI) vwCl (wd_3aea68 k n_t n_text n_readPage n_page n_trial n_book n_kept n_isKept n_seenStation n_seenOther n_seenWide n_seenWas n_sines n_at n_column n_gram n_right n_work v_thrown v_textSize q_v_place v_stations v_readStations v_doings v_seen v_seed v_wide v_up v_low r_text) H → va_D A (wd_3aea68 k n_t n_text n_readPage n_page n_trial n_book n_kept n_isKept n_seenStation n_seenOther n_seenWide n_seenWas n_sines n_at n_column n_gram n_right n_work v_thrown v_textSize q_v_place v_stations v_readStations v_doings v_seen v_seed v_wide v_up v_low r_text) → va_S A s.heap H locs → W p l e rm_X6_figure s m args below meth c H locs 0 0 Q (F0 m pc ls [.int v])) (H : Heap) (locs : List Loc) (ls : Array Slot) (hl : lv_has ls 4 [(0, .ref n_t), (1, .int x1), (2, .int x2)]) (hP : va_P (dC, dI) vwCl (wd_3aea68 k n_t n_text n_readPage n_page n_trial n_book n_kept n_isKept n_seenStation n_seenOther n_seenWide n_seenWas n_sines n_at n_column n_gram n_right n_work v_thrown v_textSize v_place v_stations v_readStations v_doings v_seen v_seed v_wide v_up v_low r_text) H) (hD : va_D A (wd_3aea68 k n_t n_text n_readPage n_page n_trial n_book n_kept n_isKept n_seenStation n_seenOther n_seenWide n_seenWas n_sines n_at n_column n_gram n_right n_work v_thrown v_textSize v_place v_stations v_readStations v_doings v_seen v_seed v_wide v_up v_low r_text)) (hS : va_S A s.heap H locs) (hm : f_X6_figure x1 x2 v_textSize v_place r_text = some (o_r, o_v_place)) : W p l e rm_X6_figure s m args below meth c H locs 0 0 Q (F0 m 0 ls []) := by
  have hinX6 : ∀ w ∈ u_ws RX6 TX6 28, w ∈ wsX6_figure := by decide +kernel
  have k0 := hts (.fieldLink RX6 79 "CaveLegsModel" "place" "I") (by decide +kernel)
  have k1 := hts (.fieldLink RX6 76 "CaveLegsModel" "textSize" "I") (by decide +kernel)
  have k2 := hts (.fieldLink RX6 7 "CaveLegsModel" "text" "[I") (by decide +kernel)
  have J_28 : ∀ (v_place : Int32) (x1 : Int32) (x2 : Int32) (s0 : Int32) (H : Heap) (locs : List Loc) (ls : Array Slot), lv_has ls 4 [(0, .ref n_t), (1, .int x1), (2, .int x2)] → va_P (dC, dI) vwCl (wd_3aea68 k n_t n_text n_readPage n_page n_trial n_book n_kept n_isKept n_seenStation n_seenOther n_seenWide n_seenWas n_sines n_at n_column n_gram n_right n_work v_thrown v_textSize v_place v_stations v_readStations v_doings v_seen v_seed v_wide v_up v_low r_text) H → va_D A (wd_3aea68 k n_t n_text n_readPage n_page n_trial n_book n_kept n_isKept n_seenStation n_seenOther n_seenWide n_seenWas n_sines n_at n_column n_gram n_right n_work v_thrown v_textSize v_place v_stations v_readStations v_doings v_seen v_seed v_wide v_up v_low r_text) → va_S A s.heap H locs → f_X6_figure_J28 v_textSize r_text v_place x1 x2 s0 = some (o_r, o_v_place) → W p l e rm_X6_figure s m args below meth c H locs 0 0 Q (F0 m 28 ls [.int s0]) := by
    intro v_place x1 x2 s0 H locs ls hl hP hD hS hm
    unfold f_X6_figure_J28 at hm
    refine lv_istore_n (lv' := [(3, .int s0), (0, .ref n_t), (1, .int x1), (2, .int x2)]) hx hb dX6_figure_28 rfl hl (by decide) rfl (fun ls hl => ?_)
    refine lv_iload_n hx hb dX6_figure_29 rfl (lv_at hl 0 rfl) ?_
    refine g_i2l hx hb dX6_figure_30 ?_
    refine lv_iload_n hx hb dX6_figure_31 rfl (lv_at hl 2 rfl) ?_
    refine g_i2l hx hb dX6_figure_32 ?_
    refine lv_iload_n hx hb dX6_figure_33 rfl (lv_at hl 3 rfl) ?_
    refine g_i2l hx hb dX6_figure_34 ?_
    obtain ⟨r1, e2, hm⟩ := bnd1_some hm
    refine g_calli (w2 := (wd_3aea68 k n_t n_text n_readPage n_page n_trial n_book n_kept n_isKept n_seenStation n_seenOther n_seenWide n_seenWas n_sines n_at n_column n_gram n_right n_work v_thrown v_textSize v_place v_stations v_readStations v_doings v_seen v_seed v_wide v_up v_low r_text)) (va_runS (As := [.long (Int32.toInt64 s0), .long (Int32.toInt64 x1), .long (Int32.toInt64 x2)]) (rest := []) ⟨hx, hb, hml, hown, hts⟩ (m_X6_in l dC dI k H.size  (Int32.toInt64 s0) (Int32.toInt64 x1) (Int32.toInt64 x2) e2) (va_cwS 3 hts gX6_figure_X6_in rfl rfl rfl (by decide +kernel) ⟨Nat.le_of_ble_eq_true rfl, Nat.le_of_ble_eq_true rfl⟩) (g_preS hG hP hD hS hA [] rfl (by decide)) rfl rfl hl.1 rfl (lv_room (Nat.le_of_ble_eq_true rfl)) dX6_figure_35 ⟨Nat.le_of_ble_eq_true rfl, Nat.le_of_ble_eq_true rfl⟩) hP hD hS hA [] [0, 1] [0, 1] rfl rfl (by decide) (by decide) rfl (by decide) (fun H locs hP hD hS => ?_)
    refine lv_if_ne (tgt := 44) hx hb dX6_figure_38 (by decide) (fun c3 => ?_) (fun c3 => ?_)
    · replace hm := ifn c3 hm
      refine lv_aload_n hx hb dX6_figure_44 rfl (lv_at hl 1 rfl) ?_
      refine lv_dup hx hb dX6_figure_45 rfl ?_
      refine va_get (D := (dC, dI)) (ci := 6) (v := .int v_place) (C := RX6) (T := TX6) (N := 28) hx hb hts hinX6 hown hG.1 hP 0 rfl rfl 3 (by decide) k0 (fun _ h9 => h9) rfl dX6_figure_46 ?_
      refine lv_iconst (v := (1 : Int32)) hx hb dX6_figure_49 (by decide) ?_
      refine lv_iadd hx hb dX6_figure_50 ?_
      refine lv_topi (fun t4 et4 => ?_)
      replace hm := (nmd_eq et4).trans hm
      refine va_put (D := (dC, dI)) (ci := 6) (v := .int t4) (ty := .int) (C := RX6) (T := TX6) (N := 28) hx hb hts hinX6 tyX6 tyX6_ok nmX6 hown hG.1 hP hD hS 0 rfl rfl 3 (by decide) k0 (fun _ h9 => h9) rfl (by decide +kernel) rfl rfl (Nat.le_of_ble_eq_true rfl) dX6_figure_51 (fun H locs hP hD hS => ?_)
      replace hP : va_P (dC, dI) vwCl (wd_3aea68 k n_t n_text n_readPage n_page n_trial n_book n_kept n_isKept n_seenStation n_seenOther n_seenWide n_seenWas n_sines n_at n_column n_gram n_right n_work v_thrown v_textSize t4 v_stations v_readStations v_doings v_seen v_seed v_wide v_up v_low r_text) H := hP
      replace hD : va_D A (wd_3aea68 k n_t n_text n_readPage n_page n_trial n_book n_kept n_isKept n_seenStation n_seenOther n_seenWide n_seenWas n_sines n_at n_column n_gram n_right n_work v_thrown v_textSize t4 v_stations v_readStations v_doings v_seen v_seed v_wide v_up v_low r_text) := hD
      refine lv_iload_n hx hb dX6_figure_54 rfl (lv_at hl 0 rfl) ?_
      exact RET _ _ _ _ _ _ dX6_figure_55 hm hP hD hS
    · replace hm := ifp c3 hm
      refine lv_bipush (v := (-9 : Int32)) hx hb dX6_figure_41 (by decide) ?_
      exact RET _ _ _ _ _ _ dX6_figure_43 hm hP hD hS
  unfold f_X6_figure at hm
  refine lv_aload_n hx hb dX6_figure_0 rfl (lv_at hl 0 rfl) ?_
  refine va_get (D := (dC, dI)) (ci := 6) (v := .int v_place) (C := RX6) (T := TX6) (N := 28) hx hb hts hinX6 hown hG.1 hP 0 rfl rfl 3 (by decide) k0 (fun _ h9 => h9) rfl dX6_figure_1 ?_
  refine lv_aload_n hx hb dX6_figure_4 rfl (lv_at hl 0 rfl) ?_
  refine va_get (D := (dC, dI)) (ci := 6) (v := .int v_textSize) (C := RX6) (T := TX6) (N := 28) hx hb hts hinX6 hown hG.1 hP 0 rfl rfl 2 (by decide) k1 (fun _ h9 => h9) rfl dX6_figure_5 ?_
  refine lv_icmp_ge (tgt := 26) hx hb dX6_figure_8 (by decide) (fun c5 => ?_) (fun c5 => ?_)
  · replace hm := ifp c5 hm
    refine lv_bipush (v := (-9 : Int32)) hx hb dX6_figure_26 (by decide) ?_
    exact J_28 _ _ _ _ _ _ _ (lv_sub hl [0, 1, 2] rfl) hP hD hS hm
  · replace hm := ifn c5 hm
    refine lv_aload_n hx hb dX6_figure_11 rfl (lv_at hl 0 rfl) ?_
    refine va_get (D := (dC, dI)) (ci := 6) (v := .ref n_text) (C := RX6) (T := TX6) (N := 28) hx hb hts hinX6 hown hG.1 hP 0 rfl rfl 1 (by decide) k2 (fun _ h9 => h9) rfl dX6_figure_12 ?_
    refine lv_aload_n hx hb dX6_figure_15 rfl (lv_at hl 0 rfl) ?_
    refine va_get (D := (dC, dI)) (ci := 6) (v := .int v_place) (C := RX6) (T := TX6) (N := 28) hx hb hts hinX6 hown hG.1 hP 0 rfl rfl 3 (by decide) k0 (fun _ h9 => h9) rfl dX6_figure_16 ?_
    obtain ⟨hi6, hm⟩ := chk_some hm
    refine va_iald hx hb hG.1 hP 1 0 rfl rfl hi6 dX6_figure_19 ?_
    refine lv_bipush (v := (48 : Int32)) hx hb dX6_figure_20 (by decide) ?_
    refine lv_isub hx hb dX6_figure_22 ?_
    refine lv_goto (tgt := 28) hx hb dX6_figure_23 (by decide) ?_
    exact J_28 _ _ _ _ _ _ _ (lv_sub hl [0, 1, 2] rfl) hP hD hS hm
set_option maxRecDepth 100000 in
theorem m_X6_figure (l : Launch) (dC : Nat → ClassId) (dI : Nat → Nat → Nat) (k : Nat → ClassId) (sz : Nat) (n_t n_text n_readPage n_page n_trial n_book n_kept n_isKept n_seenStation n_seenOther n_seenWide n_seenWas n_sines n_at n_column n_gram n_right n_work : Nat) (v_thrown : Int32) (v_textSize : Int32) (v_place : Int32) (v_stations : Int32) (v_readStations : Int32) (v_doings : Int32) (v_seen : Int32) (v_seed : Int64) (v_wide : Int32) (v_up : Int64) (v_low : Int64) (r_text : Nat → Int32) (x1 : Int32) (x2 : Int32) {o_r : Int32} {o_v_place : (Int32)} (hm : f_X6_figure x1 x2 v_textSize v_place r_text = some (o_r, o_v_place)) : Met l yX6_figure wsX6_figure rm_X6_figure (gPre dC dI k [.ref n_t, .int x1, .int x2] sz (wd_3aea68 k n_t n_text n_readPage n_page n_trial n_book n_kept n_isKept n_seenStation n_seenOther n_seenWide n_seenWas n_sines n_at n_column n_gram n_right n_work v_thrown v_textSize v_place v_stations v_readStations v_doings v_seen v_seed v_wide v_up v_low r_text)) (gQI dC dI (va_A (wd_3aea68 k n_t n_text n_readPage n_page n_trial n_book n_kept n_isKept n_seenStation n_seenOther n_seenWide n_seenWas n_sines n_at n_column n_gram n_right n_work v_thrown v_textSize v_place v_stations v_readStations v_doings v_seen v_seed v_wide v_up v_low r_text) sz) o_r (wd_3aea68 k n_t n_text n_readPage n_page n_trial n_book n_kept n_isKept n_seenStation n_seenOther n_seenWide n_seenWas n_sines n_at n_column n_gram n_right n_work v_thrown v_textSize o_v_place v_stations v_readStations v_doings v_seen v_seed v_wide v_up v_low r_text)) 0 0 (va_A (wd_3aea68 k n_t n_text n_readPage n_page n_trial n_book n_kept n_isKept n_seenStation n_seenOther n_seenWide n_seenWas n_sines n_at n_column n_gram n_right n_work v_thrown v_textSize v_place v_stations v_readStations v_doings v_seen v_seed v_wide v_up v_low r_text) sz) := by
  refine g_entry (cc := cX6_figure) (maxL := 4) (ret := (some .int)) (lv := [(0, .ref n_t), (1, .int x1), (2, .int x2)]) (by decide +kernel) rfl (Nat.le_of_ble_eq_true rfl) rfl (fun p e s m below meth c ls hx hb hr hml hts hown hlk hnm hsz hG hA hP hD hS hl => ?_)
  exact k_X6_figure hx hb hml hts hown hG hA n_t n_text n_readPage n_page n_trial n_book n_kept n_isKept n_seenStation n_seenOther n_seenWide n_seenWas n_sines n_at n_column n_gram n_right n_work v_thrown v_textSize v_place v_stations v_readStations v_doings v_seen v_seed v_wide v_up v_low r_text x1 x2 o_r o_v_place (fun pc H locs ls v q_v_place hd ho hP hD hS => by cases ho; exact g_ireti hx hb hr hlk hP hD hS hd) s.heap [] ls hl hP hD hS hm
end
section
set_option maxHeartbeats 4000000 in
set_option maxRecDepth 100000 in
theorem k_X6_bearing {p : Program} {l : Launch} {e : Env} {s : State} {m : MethodId} {args : Array Value} {below : List Frame} {meth : Method} {c : Code} {A : Nat → Prop} {Q : State → Prop} {dC : Nat → ClassId} {dI : Nat → Nat → Nat} {k : Nat → ClassId} (hx : p.tables.exec = Jvm.exec) (hb : c.code = cX6_bearing) (hml : c.maxLocals = 3) (hts : ∀ w ∈ wsX6_bearing, w.before args s = true) (hown : s.vm.findClass RX6 = some m.cls) (hG : gK dC dI k A s) (hA : ∀ q : Nat, s.heap.size ≤ q → A q) (n_t n_text n_readPage n_page n_trial n_book n_kept n_isKept n_seenStation n_seenOther n_seenWide n_seenWas n_sines n_at n_column n_gram n_right n_work : Nat) (v_thrown : Int32) (v_textSize : Int32) (v_place : Int32) (v_stations : Int32) (v_readStations : Int32) (v_doings : Int32) (v_seen : Int32) (v_seed : Int64) (v_wide : Int32) (v_up : Int64) (v_low : Int64) (r_text : Nat → Int32) (o_r : Int32) (o_v_place : (Int32)) (RET : ∀ (pc : Nat) (H : Heap) (locs : List Loc) (ls : Array Slot) (v : Int32) (q_v_place : Int32), decode cX6_bearing pc = .ok (.ireturn, 1) → some (v, q_v_place) = some (o_r, o_v_place) → va_P (dC, dI) vwCl (wd_3aea68 k n_t n_text n_readPage n_page n_trial n_book n_kept n_isKept n_seenStation n_seenOther n_seenWide n_seenWas n_sines n_at n_column n_gram n_right n_work v_thrown v_textSize q_v_place v_stations v_readStations v_doings v_seen v_seed v_wide v_up v_low r_text) H → va_D A (wd_3aea68 k n_t n_text n_readPage n_page n_trial n_book n_kept n_isKept n_seenStation n_seenOther n_seenWide n_seenWas n_sines n_at n_column n_gram n_right n_work v_thrown v_textSize q_v_place v_stations v_readStations v_doings v_seen v_seed v_wide v_up v_low r_text) → va_S A s.heap H locs → W p l e rm_X6_bearing s m args below meth c H locs 0 0 Q (F0 m pc ls [.int v])) (H : Heap) (locs : List Loc) (ls : Array Slot) (hl : lv_has ls 3 [(0, .ref n_t)]) (hP : va_P (dC, dI) vwCl (wd_3aea68 k n_t n_text n_readPage n_page n_trial n_book n_kept n_isKept n_seenStation n_seenOther n_seenWide n_seenWas n_sines n_at n_column n_gram n_right n_work v_thrown v_textSize v_place v_stations v_readStations v_doings v_seen v_seed v_wide v_up v_low r_text) H) (hD : va_D A (wd_3aea68 k n_t n_text n_readPage n_page n_trial n_book n_kept n_isKept n_seenStation n_seenOther n_seenWide n_seenWas n_sines n_at n_column n_gram n_right n_work v_thrown v_textSize v_place v_stations v_readStations v_doings v_seen v_seed v_wide v_up v_low r_text)) (hS : va_S A s.heap H locs) (hm : f_X6_bearing v_textSize v_place r_text = some (o_r, o_v_place)) : W p l e rm_X6_bearing s m args below meth c H locs 0 0 Q (F0 m 0 ls []) := by
  have hinX6 : ∀ w ∈ u_ws RX6 TX6 28, w ∈ wsX6_bearing := by decide +kernel
  have k0 := hts (.fieldLink RX6 79 "CaveLegsModel" "place" "I") (by decide +kernel)
  have k1 := hts (.fieldLink RX6 76 "CaveLegsModel" "textSize" "I") (by decide +kernel)
  have k2 := hts (.fieldLink RX6 7 "CaveLegsModel" "text" "[I") (by decide +kernel)
  have J_66 : ∀ (v_place : Int32) (x2 : Int32) (s1 : Int32) (s2 : Int32) (H : Heap) (locs : List Loc) (ls : Array Slot), lv_has ls 3 [(0, .ref n_t), (2, .int x2)] → va_P (dC, dI) vwCl (wd_3aea68 k n_t n_text n_readPage n_page n_trial n_book n_kept n_isKept n_seenStation n_seenOther n_seenWide n_seenWas n_sines n_at n_column n_gram n_right n_work v_thrown v_textSize v_place v_stations v_readStations v_doings v_seen v_seed v_wide v_up v_low r_text) H → va_D A (wd_3aea68 k n_t n_text n_readPage n_page n_trial n_book n_kept n_isKept n_seenStation n_seenOther n_seenWide n_seenWas n_sines n_at n_column n_gram n_right n_work v_thrown v_textSize v_place v_stations v_readStations v_doings v_seen v_seed v_wide v_up v_low r_text) → va_S A s.heap H locs → f_X6_bearing_J66 v_textSize r_text v_place x2 s1 s2 = some (o_r, o_v_place) → W p l e rm_X6_bearing s m args below meth c H locs 0 0 Q (F0 m 66 ls [.int s2, .int s1, .ref n_t]) := by
    intro v_place x2 s1 s2 H locs ls hl hP hD hS hm
    unfold f_X6_bearing_J66 at hm
    refine lv_iadd hx hb dX6_bearing_66 ?_
    refine lv_topi (fun t1 et1 => ?_)
    replace hm := (nmd_eq et1).trans hm
    refine va_put (D := (dC, dI)) (ci := 6) (v := .int t1) (ty := .int) (C := RX6) (T := TX6) (N := 28) hx hb hts hinX6 tyX6 tyX6_ok nmX6 hown hG.1 hP hD hS 0 rfl rfl 3 (by decide) k0 (fun _ h9 => h9) rfl (by decide +kernel) rfl rfl (Nat.le_of_ble_eq_true rfl) dX6_bearing_67 (fun H locs hP hD hS => ?_)
    replace hP : va_P (dC, dI) vwCl (wd_3aea68 k n_t n_text n_readPage n_page n_trial n_book n_kept n_isKept n_seenStation n_seenOther n_seenWide n_seenWas n_sines n_at n_column n_gram n_right n_work v_thrown v_textSize t1 v_stations v_readStations v_doings v_seen v_seed v_wide v_up v_low r_text) H := hP
    replace hD : va_D A (wd_3aea68 k n_t n_text n_readPage n_page n_trial n_book n_kept n_isKept n_seenStation n_seenOther n_seenWide n_seenWas n_sines n_at n_column n_gram n_right n_work v_thrown v_textSize t1 v_stations v_readStations v_doings v_seen v_seed v_wide v_up v_low r_text) := hD
    refine lv_iload_n hx hb dX6_bearing_70 rfl (lv_at hl 1 rfl) ?_
    refine lv_bipush (v := (-9 : Int32)) hx hb dX6_bearing_71 (by decide) ?_
    refine lv_icmp_ne (tgt := 86) hx hb dX6_bearing_73 (by decide) (fun c2 => ?_) (fun c2 => ?_)
    · replace hm := ifn c2 hm
      refine lv_iload_n hx hb dX6_bearing_86 rfl (lv_at hl 1 rfl) ?_
      exact RET _ _ _ _ _ _ dX6_bearing_87 hm hP hD hS
    · replace hm := ifp c2 hm
      refine lv_aload_n hx hb dX6_bearing_76 rfl (lv_at hl 0 rfl) ?_
      refine lv_iconst (v := (0 : Int32)) hx hb dX6_bearing_77 (by decide) ?_
      refine lv_bipush (v := (9 : Int32)) hx hb dX6_bearing_78 (by decide) ?_
      obtain ⟨r3, w4, e5, hm⟩ := bnd2_some hm
      refine g_calli (w2 := (wd_3aea68 k n_t n_text n_readPage n_page n_trial n_book n_kept n_isKept n_seenStation n_seenOther n_seenWide n_seenWas n_sines n_at n_column n_gram n_right n_work v_thrown v_textSize w4 v_stations v_readStations v_doings v_seen v_seed v_wide v_up v_low r_text)) (va_runV (As := [.int (0 : Int32), .int (9 : Int32)]) (rest := []) ⟨hx, hb, hml, hown, hts⟩ (m_X6_figure l dC dI k H.size n_t n_text n_readPage n_page n_trial n_book n_kept n_isKept n_seenStation n_seenOther n_seenWide n_seenWas n_sines n_at n_column n_gram n_right n_work v_thrown v_textSize t1 v_stations v_readStations v_doings v_seen v_seed v_wide v_up v_low r_text (0 : Int32) (9 : Int32) e5) (cwV 2 hts gX6_bearing_X6_figure rfl rfl rfl (by decide +kernel) ⟨Nat.le_of_ble_eq_true rfl, Nat.le_of_ble_eq_true rfl⟩) (g_preV hG hP hD hS hA [0, 1] rfl (by decide) (ci := 6) (q0 := 0) rfl rfl) rfl rfl hl.1 rfl (lv_room (Nat.le_of_ble_eq_true rfl)) dX6_bearing_80 ⟨Nat.le_of_ble_eq_true rfl, Nat.le_of_ble_eq_true rfl⟩) hP hD hS hA [0, 1] [] [0, 1] rfl rfl (by decide) (by decide) rfl (by decide) (fun H locs hP hD hS => ?_)
      refine lv_goto (tgt := 87) hx hb dX6_bearing_83 (by decide) ?_
      exact RET _ _ _ _ _ _ dX6_bearing_87 hm hP hD hS
  have J_49 : ∀ (v_place : Int32) (s0 : Int32) (H : Heap) (locs : List Loc) (ls : Array Slot), lv_has ls 3 [(0, .ref n_t)] → va_P (dC, dI) vwCl (wd_3aea68 k n_t n_text n_readPage n_page n_trial n_book n_kept n_isKept n_seenStation n_seenOther n_seenWide n_seenWas n_sines n_at n_column n_gram n_right n_work v_thrown v_textSize v_place v_stations v_readStations v_doings v_seen v_seed v_wide v_up v_low r_text) H → va_D A (wd_3aea68 k n_t n_text n_readPage n_page n_trial n_book n_kept n_isKept n_seenStation n_seenOther n_seenWide n_seenWas n_sines n_at n_column n_gram n_right n_work v_thrown v_textSize v_place v_stations v_readStations v_doings v_seen v_seed v_wide v_up v_low r_text) → va_S A s.heap H locs → f_X6_bearing_J49 v_textSize r_text v_place s0 = some (o_r, o_v_place) → W p l e rm_X6_bearing s m args below meth c H locs 0 0 Q (F0 m 49 ls [.int s0]) := by
    intro v_place s0 H locs ls hl hP hD hS hm
    unfold f_X6_bearing_J49 at hm
    refine lv_istore_n (lv' := [(2, .int s0), (0, .ref n_t)]) hx hb dX6_bearing_49 rfl hl (by decide) rfl (fun ls hl => ?_)
    refine lv_aload_n hx hb dX6_bearing_50 rfl (lv_at hl 1 rfl) ?_
    refine lv_dup hx hb dX6_bearing_51 rfl ?_
    refine va_get (D := (dC, dI)) (ci := 6) (v := .int v_place) (C := RX6) (T := TX6) (N := 28) hx hb hts hinX6 hown hG.1 hP 0 rfl rfl 3 (by decide) k0 (fun _ h9 => h9) rfl dX6_bearing_52 ?_
    refine lv_iload_n hx hb dX6_bearing_55 rfl (lv_at hl 0 rfl) ?_
    refine lv_bipush (v := (-9 : Int32)) hx hb dX6_bearing_56 (by decide) ?_
    refine lv_icmp_ne (tgt := 65) hx hb dX6_bearing_58 (by decide) (fun c6 => ?_) (fun c6 => ?_)
    · replace hm := ifn c6 hm
      refine lv_iconst (v := (1 : Int32)) hx hb dX6_bearing_65 (by decide) ?_
      exact J_66 _ _ _ _ _ _ _ (lv_sub hl [1, 0] rfl) hP hD hS hm
    · replace hm := ifp c6 hm
      refine lv_iconst (v := (0 : Int32)) hx hb dX6_bearing_61 (by decide) ?_
      refine lv_goto (tgt := 66) hx hb dX6_bearing_62 (by decide) ?_
      exact J_66 _ _ _ _ _ _ _ (lv_sub hl [1, 0] rfl) hP hD hS hm
  have J_24 : ∀ (v_place : Int32) (s0 : Int32) (H : Heap) (locs : List Loc) (ls : Array Slot), lv_has ls 3 [(0, .ref n_t)] → va_P (dC, dI) vwCl (wd_3aea68 k n_t n_text n_readPage n_page n_trial n_book n_kept n_isKept n_seenStation n_seenOther n_seenWide n_seenWas n_sines n_at n_column n_gram n_right n_work v_thrown v_textSize v_place v_stations v_readStations v_doings v_seen v_seed v_wide v_up v_low r_text) H → va_D A (wd_3aea68 k n_t n_text n_readPage n_page n_trial n_book n_kept n_isKept n_seenStation n_seenOther n_seenWide n_seenWas n_sines n_at n_column n_gram n_right n_work v_thrown v_textSize v_place v_stations v_readStations v_doings v_seen v_seed v_wide v_up v_low r_text) → va_S A s.heap H locs → f_X6_bearing_J24 v_textSize r_text v_place s0 = some (o_r, o_v_place) → W p l e rm_X6_bearing s m args below meth c H locs 0 0 Q (F0 m 24 ls [.int s0]) := by
    intro v_place s0 H locs ls hl hP hD hS hm
    unfold f_X6_bearing_J24 at hm
    refine lv_istore_n (lv' := [(1, .int s0), (0, .ref n_t)]) hx hb dX6_bearing_24 rfl hl (by decide) rfl (fun ls hl => ?_)
    refine lv_iload_n hx hb dX6_bearing_25 rfl (lv_at hl 0 rfl) ?_
    refine lv_bipush (v := (97 : Int32)) hx hb dX6_bearing_26 (by decide) ?_
    refine lv_icmp_ne (tgt := 36) hx hb dX6_bearing_28 (by decide) (fun c7 => ?_) (fun c7 => ?_)
    · replace hm := ifn c7 hm
      refine lv_iload_n hx hb dX6_bearing_36 rfl (lv_at hl 0 rfl) ?_
      refine lv_bipush (v := (98 : Int32)) hx hb dX6_bearing_37 (by decide) ?_
      refine lv_icmp_ne (tgt := 47) hx hb dX6_bearing_39 (by decide) (fun c8 => ?_) (fun c8 => ?_)
      · replace hm := ifn c8 hm
        refine lv_bipush (v := (-9 : Int32)) hx hb dX6_bearing_47 (by decide) ?_
        exact J_49 _ _ _ _ _ (lv_sub hl [1] rfl) hP hD hS hm
      · replace hm := ifp c8 hm
        refine lv_bipush (v := (11 : Int32)) hx hb dX6_bearing_42 (by decide) ?_
        refine lv_goto (tgt := 49) hx hb dX6_bearing_44 (by decide) ?_
        exact J_49 _ _ _ _ _ (lv_sub hl [1] rfl) hP hD hS hm
    · replace hm := ifp c7 hm
      refine lv_bipush (v := (10 : Int32)) hx hb dX6_bearing_31 (by decide) ?_
      refine lv_goto (tgt := 49) hx hb dX6_bearing_33 (by decide) ?_
      exact J_49 _ _ _ _ _ (lv_sub hl [1] rfl) hP hD hS hm
  unfold f_X6_bearing at hm
  refine lv_aload_n hx hb dX6_bearing_0 rfl (lv_at hl 0 rfl) ?_
  refine va_get (D := (dC, dI)) (ci := 6) (v := .int v_place) (C := RX6) (T := TX6) (N := 28) hx hb hts hinX6 hown hG.1 hP 0 rfl rfl 3 (by decide) k0 (fun _ h9 => h9) rfl dX6_bearing_1 ?_
  refine lv_aload_n hx hb dX6_bearing_4 rfl (lv_at hl 0 rfl) ?_
  refine va_get (D := (dC, dI)) (ci := 6) (v := .int v_textSize) (C := RX6) (T := TX6) (N := 28) hx hb hts hinX6 hown hG.1 hP 0 rfl rfl 2 (by decide) k1 (fun _ h9 => h9) rfl dX6_bearing_5 ?_
  refine lv_icmp_ge (tgt := 23) hx hb dX6_bearing_8 (by decide) (fun c9 => ?_) (fun c9 => ?_)
  · replace hm := ifp c9 hm
    refine lv_iconst (v := (0 : Int32)) hx hb dX6_bearing_23 (by decide) ?_
    exact J_24 _ _ _ _ _ (lv_sub hl [0] rfl) hP hD hS hm
  · replace hm := ifn c9 hm
    refine lv_aload_n hx hb dX6_bearing_11 rfl (lv_at hl 0 rfl) ?_
    refine va_get (D := (dC, dI)) (ci := 6) (v := .ref n_text) (C := RX6) (T := TX6) (N := 28) hx hb hts hinX6 hown hG.1 hP 0 rfl rfl 1 (by decide) k2 (fun _ h9 => h9) rfl dX6_bearing_12 ?_
    refine lv_aload_n hx hb dX6_bearing_15 rfl (lv_at hl 0 rfl) ?_
    refine va_get (D := (dC, dI)) (ci := 6) (v := .int v_place) (C := RX6) (T := TX6) (N := 28) hx hb hts hinX6 hown hG.1 hP 0 rfl rfl 3 (by decide) k0 (fun _ h9 => h9) rfl dX6_bearing_16 ?_
    obtain ⟨hi10, hm⟩ := chk_some hm
    refine va_iald hx hb hG.1 hP 1 0 rfl rfl hi10 dX6_bearing_19 ?_
    refine lv_goto (tgt := 24) hx hb dX6_bearing_20 (by decide) ?_
    exact J_24 _ _ _ _ _ (lv_sub hl [0] rfl) hP hD hS hm
set_option maxRecDepth 100000 in
theorem m_X6_bearing (l : Launch) (dC : Nat → ClassId) (dI : Nat → Nat → Nat) (k : Nat → ClassId) (sz : Nat) (n_t n_text n_readPage n_page n_trial n_book n_kept n_isKept n_seenStation n_seenOther n_seenWide n_seenWas n_sines n_at n_column n_gram n_right n_work : Nat) (v_thrown : Int32) (v_textSize : Int32) (v_place : Int32) (v_stations : Int32) (v_readStations : Int32) (v_doings : Int32) (v_seen : Int32) (v_seed : Int64) (v_wide : Int32) (v_up : Int64) (v_low : Int64) (r_text : Nat → Int32) {o_r : Int32} {o_v_place : (Int32)} (hm : f_X6_bearing v_textSize v_place r_text = some (o_r, o_v_place)) : Met l yX6_bearing wsX6_bearing rm_X6_bearing (gPre dC dI k [.ref n_t] sz (wd_3aea68 k n_t n_text n_readPage n_page n_trial n_book n_kept n_isKept n_seenStation n_seenOther n_seenWide n_seenWas n_sines n_at n_column n_gram n_right n_work v_thrown v_textSize v_place v_stations v_readStations v_doings v_seen v_seed v_wide v_up v_low r_text)) (gQI dC dI (va_A (wd_3aea68 k n_t n_text n_readPage n_page n_trial n_book n_kept n_isKept n_seenStation n_seenOther n_seenWide n_seenWas n_sines n_at n_column n_gram n_right n_work v_thrown v_textSize v_place v_stations v_readStations v_doings v_seen v_seed v_wide v_up v_low r_text) sz) o_r (wd_3aea68 k n_t n_text n_readPage n_page n_trial n_book n_kept n_isKept n_seenStation n_seenOther n_seenWide n_seenWas n_sines n_at n_column n_gram n_right n_work v_thrown v_textSize o_v_place v_stations v_readStations v_doings v_seen v_seed v_wide v_up v_low r_text)) 0 0 (va_A (wd_3aea68 k n_t n_text n_readPage n_page n_trial n_book n_kept n_isKept n_seenStation n_seenOther n_seenWide n_seenWas n_sines n_at n_column n_gram n_right n_work v_thrown v_textSize v_place v_stations v_readStations v_doings v_seen v_seed v_wide v_up v_low r_text) sz) := by
  refine g_entry (cc := cX6_bearing) (maxL := 3) (ret := (some .int)) (lv := [(0, .ref n_t)]) (by decide +kernel) rfl (Nat.le_of_ble_eq_true rfl) rfl (fun p e s m below meth c ls hx hb hr hml hts hown hlk hnm hsz hG hA hP hD hS hl => ?_)
  exact k_X6_bearing hx hb hml hts hown hG hA n_t n_text n_readPage n_page n_trial n_book n_kept n_isKept n_seenStation n_seenOther n_seenWide n_seenWas n_sines n_at n_column n_gram n_right n_work v_thrown v_textSize v_place v_stations v_readStations v_doings v_seen v_seed v_wide v_up v_low r_text o_r o_v_place (fun pc H locs ls v q_v_place hd ho hP hD hS => by cases ho; exact g_ireti hx hb hr hlk hP hD hS hd) s.heap [] ls hl hP hD hS hm
end
section
set_option maxHeartbeats 4000000 in
set_option maxRecDepth 100000 in
theorem k_X6_readLeg {p : Program} {l : Launch} {e : Env} {s : State} {m : MethodId} {args : Array Value} {below : List Frame} {meth : Method} {c : Code} {A : Nat → Prop} {Q : State → Prop} {dC : Nat → ClassId} {dI : Nat → Nat → Nat} {k : Nat → ClassId} (hx : p.tables.exec = Jvm.exec) (hb : c.code = cX6_readLeg) (hml : c.maxLocals = 9) (hts : ∀ w ∈ wsX6_readLeg, w.before args s = true) (hown : s.vm.findClass RX6 = some m.cls) (hG : gK dC dI k A s) (hA : ∀ q : Nat, s.heap.size ≤ q → A q) (n_t n_text n_readPage n_page n_trial n_book n_kept n_isKept n_seenStation n_seenOther n_seenWide n_seenWas n_sines n_at n_column n_gram n_right n_work : Nat) (v_thrown : Int32) (v_textSize : Int32) (v_place : Int32) (v_stations : Int32) (v_readStations : Int32) (v_doings : Int32) (v_seen : Int32) (v_seed : Int64) (v_wide : Int32) (v_up : Int64) (v_low : Int64) (r_text : Nat → Int32) (r_readPage : Nat → Int32) (o_r : Int32) (o_v_place : (Int32)) (o_r_readPage : (Nat → Int32)) (RET : ∀ (pc : Nat) (H : Heap) (locs : List Loc) (ls : Array Slot) (v : Int32) (q_v_place : Int32) (q_r_readPage : Nat → Int32), decode cX6_readLeg pc = .ok (.ireturn, 1) → some (v, q_v_place, q_r_readPage) = some (o_r, o_v_place, o_r_readPage) → narrow .boolean (.int v) = .int v → va_P (dC, dI) vwCl (wd_f87564 k n_t n_text n_readPage n_page n_trial n_book n_kept n_isKept n_seenStation n_seenOther n_seenWide n_seenWas n_sines n_at n_column n_gram n_right n_work v_thrown v_textSize q_v_place v_stations v_readStations v_doings v_seen v_seed v_wide v_up v_low r_text q_r_readPage) H → va_D A (wd_f87564 k n_t n_text n_readPage n_page n_trial n_book n_kept n_isKept n_seenStation n_seenOther n_seenWide n_seenWas n_sines n_at n_column n_gram n_right n_work v_thrown v_textSize q_v_place v_stations v_readStations v_doings v_seen v_seed v_wide v_up v_low r_text q_r_readPage) → va_S A s.heap H locs → W p l e rm_X6_readLeg s m args below meth c H locs 0 0 Q (F0 m pc ls [.int v])) (H : Heap) (locs : List Loc) (ls : Array Slot) (hl : lv_has ls 9 [(0, .ref n_t)]) (hP : va_P (dC, dI) vwCl (wd_f87564 k n_t n_text n_readPage n_page n_trial n_book n_kept n_isKept n_seenStation n_seenOther n_seenWide n_seenWas n_sines n_at n_column n_gram n_right n_work v_thrown v_textSize v_place v_stations v_readStations v_doings v_seen v_seed v_wide v_up v_low r_text r_readPage) H) (hD : va_D A (wd_f87564 k n_t n_text n_readPage n_page n_trial n_book n_kept n_isKept n_seenStation n_seenOther n_seenWide n_seenWas n_sines n_at n_column n_gram n_right n_work v_thrown v_textSize v_place v_stations v_readStations v_doings v_seen v_seed v_wide v_up v_low r_text r_readPage)) (hS : va_S A s.heap H locs) (hm : f_X6_readLeg v_textSize v_place v_readStations r_text r_readPage = some (o_r, o_v_place, o_r_readPage)) : W p l e rm_X6_readLeg s m args below meth c H locs 0 0 Q (F0 m 0 ls []) := by
  have hinX6 : ∀ w ∈ u_ws RX6 TX6 28, w ∈ wsX6_readLeg := by decide +kernel
  have k0 := hts (.fieldLink RX6 17 "CaveLegsModel" "readPage" "[I") (by decide +kernel)
  have k1 := hts (.fieldLink RX6 79 "CaveLegsModel" "place" "I") (by decide +kernel)
  have k2 := hts (.fieldLink RX6 7 "CaveLegsModel" "text" "[I") (by decide +kernel)
  have k3 := hts (.fieldLink RX6 86 "CaveLegsModel" "readStations" "I") (by decide +kernel)
  have J_213 : ∀ (v_place : Int32) (r_readPage : Nat → Int32) (x1 : Int32) (x2 : Int32) (x3 : Int32) (x4 : Int32) (x5 : Int32) (x6 : Int32) (x7 : Int32) (s0 : Int32) (H : Heap) (locs : List Loc) (ls : Array Slot), lv_has ls 9 [(0, .ref n_t), (1, .int x1), (2, .int x2), (3, .int x3), (4, .int x4), (5, .int x5), (6, .int x6), (7, .int x7)] → va_P (dC, dI) vwCl (wd_f87564 k n_t n_text n_readPage n_page n_trial n_book n_kept n_isKept n_seenStation n_seenOther n_seenWide n_seenWas n_sines n_at n_column n_gram n_right n_work v_thrown v_textSize v_place v_stations v_readStations v_doings v_seen v_seed v_wide v_up v_low r_text r_readPage) H → va_D A (wd_f87564 k n_t n_text n_readPage n_page n_trial n_book n_kept n_isKept n_seenStation n_seenOther n_seenWide n_seenWas n_sines n_at n_column n_gram n_right n_work v_thrown v_textSize v_place v_stations v_readStations v_doings v_seen v_seed v_wide v_up v_low r_text r_readPage) → va_S A s.heap H locs → f_X6_readLeg_J213 v_textSize v_readStations r_text v_place r_readPage x1 x2 x3 x4 x5 x6 x7 s0 = some (o_r, o_v_place, o_r_readPage) → W p l e rm_X6_readLeg s m args below meth c H locs 0 0 Q (F0 m 213 ls [.int s0]) := by
    intro v_place r_readPage x1 x2 x3 x4 x5 x6 x7 s0 H locs ls hl hP hD hS hm
    unfold f_X6_readLeg_J213 at hm
    refine lv_istore (lv' := [(8, .int s0), (0, .ref n_t), (1, .int x1), (2, .int x2), (3, .int x3), (4, .int x4), (5, .int x5), (6, .int x6), (7, .int x7)]) hx hb dX6_readLeg_213 hl (by decide) rfl (fun ls hl => ?_)
    refine lv_iload hx hb dX6_readLeg_215 (lv_at hl 0 rfl) ?_
    refine lv_bipush (v := (-9 : Int32)) hx hb dX6_readLeg_217 (by decide) ?_
    refine lv_icmp_ne (tgt := 224) hx hb dX6_readLeg_219 (by decide) (fun c1 => ?_) (fun c1 => ?_)
    · replace hm := ifn c1 hm
      refine lv_aload_n hx hb dX6_readLeg_224 rfl (lv_at hl 1 rfl) ?_
      refine va_get (D := (dC, dI)) (ci := 6) (v := .ref n_readPage) (C := RX6) (T := TX6) (N := 28) hx hb hts hinX6 hown hG.1 hP 0 rfl rfl 6 (by decide) k0 (fun _ h9 => h9) rfl dX6_readLeg_225 ?_
      refine lv_iload_n hx hb dX6_readLeg_228 rfl (lv_at hl 2 rfl) ?_
      refine lv_iconst (v := (0 : Int32)) hx hb dX6_readLeg_229 (by decide) ?_
      refine lv_iadd hx hb dX6_readLeg_230 ?_
      refine lv_bipush (v := (10 : Int32)) hx hb dX6_readLeg_231 (by decide) ?_
      refine lv_iload hx hb dX6_readLeg_233 (lv_at hl 5 rfl) ?_
      refine lv_imul hx hb dX6_readLeg_235 ?_
      refine lv_iload hx hb dX6_readLeg_236 (lv_at hl 6 rfl) ?_
      refine lv_iadd hx hb dX6_readLeg_238 ?_
      refine lv_topi (fun t2 et2 => ?_)
      replace hm := (nmd_eq et2).trans hm
      obtain ⟨hi3, hm⟩ := chk_some hm
      refine va_iast hx hb hG.1 hP hD hS 2 0 rfl rfl hi3 dX6_readLeg_239 (fun H locs hP hD hS => ?_)
      replace hP : va_P (dC, dI) vwCl (wd_f87564 k n_t n_text n_readPage n_page n_trial n_book n_kept n_isKept n_seenStation n_seenOther n_seenWide n_seenWas n_sines n_at n_column n_gram n_right n_work v_thrown v_textSize v_place v_stations v_readStations v_doings v_seen v_seed v_wide v_up v_low r_text (upd r_readPage (Int32.toNatClampNeg (x1 + (0 : Int32))) t2)) H := hP
      replace hD : va_D A (wd_f87564 k n_t n_text n_readPage n_page n_trial n_book n_kept n_isKept n_seenStation n_seenOther n_seenWide n_seenWas n_sines n_at n_column n_gram n_right n_work v_thrown v_textSize v_place v_stations v_readStations v_doings v_seen v_seed v_wide v_up v_low r_text (upd r_readPage (Int32.toNatClampNeg (x1 + (0 : Int32))) t2)) := hD
      refine lv_aload_n hx hb dX6_readLeg_240 rfl (lv_at hl 1 rfl) ?_
      refine va_get (D := (dC, dI)) (ci := 6) (v := .ref n_readPage) (C := RX6) (T := TX6) (N := 28) hx hb hts hinX6 hown hG.1 hP 0 rfl rfl 6 (by decide) k0 (fun _ h9 => h9) rfl dX6_readLeg_241 ?_
      refine lv_iload_n hx hb dX6_readLeg_244 rfl (lv_at hl 2 rfl) ?_
      refine lv_iconst (v := (1 : Int32)) hx hb dX6_readLeg_245 (by decide) ?_
      refine lv_iadd hx hb dX6_readLeg_246 ?_
      refine lv_iload hx hb dX6_readLeg_247 (lv_at hl 7 rfl) ?_
      obtain ⟨hi4, hm⟩ := chk_some hm
      refine va_iast hx hb hG.1 hP hD hS 2 0 rfl rfl hi4 dX6_readLeg_249 (fun H locs hP hD hS => ?_)
      replace hP : va_P (dC, dI) vwCl (wd_f87564 k n_t n_text n_readPage n_page n_trial n_book n_kept n_isKept n_seenStation n_seenOther n_seenWide n_seenWas n_sines n_at n_column n_gram n_right n_work v_thrown v_textSize v_place v_stations v_readStations v_doings v_seen v_seed v_wide v_up v_low r_text (upd (upd r_readPage (Int32.toNatClampNeg (x1 + (0 : Int32))) t2) (Int32.toNatClampNeg (x1 + (1 : Int32))) x6)) H := hP
      replace hD : va_D A (wd_f87564 k n_t n_text n_readPage n_page n_trial n_book n_kept n_isKept n_seenStation n_seenOther n_seenWide n_seenWas n_sines n_at n_column n_gram n_right n_work v_thrown v_textSize v_place v_stations v_readStations v_doings v_seen v_seed v_wide v_up v_low r_text (upd (upd r_readPage (Int32.toNatClampNeg (x1 + (0 : Int32))) t2) (Int32.toNatClampNeg (x1 + (1 : Int32))) x6)) := hD
      refine lv_aload_n hx hb dX6_readLeg_250 rfl (lv_at hl 1 rfl) ?_
      refine va_get (D := (dC, dI)) (ci := 6) (v := .ref n_readPage) (C := RX6) (T := TX6) (N := 28) hx hb hts hinX6 hown hG.1 hP 0 rfl rfl 6 (by decide) k0 (fun _ h9 => h9) rfl dX6_readLeg_251 ?_
      refine lv_iload_n hx hb dX6_readLeg_254 rfl (lv_at hl 2 rfl) ?_
      refine lv_iconst (v := (2 : Int32)) hx hb dX6_readLeg_255 (by decide) ?_
      refine lv_iadd hx hb dX6_readLeg_256 ?_
      refine lv_iload hx hb dX6_readLeg_257 (lv_at hl 8 rfl) ?_
      obtain ⟨hi5, hm⟩ := chk_some hm
      refine va_iast hx hb hG.1 hP hD hS 2 0 rfl rfl hi5 dX6_readLeg_259 (fun H locs hP hD hS => ?_)
      replace hP : va_P (dC, dI) vwCl (wd_f87564 k n_t n_text n_readPage n_page n_trial n_book n_kept n_isKept n_seenStation n_seenOther n_seenWide n_seenWas n_sines n_at n_column n_gram n_right n_work v_thrown v_textSize v_place v_stations v_readStations v_doings v_seen v_seed v_wide v_up v_low r_text (upd (upd (upd r_readPage (Int32.toNatClampNeg (x1 + (0 : Int32))) t2) (Int32.toNatClampNeg (x1 + (1 : Int32))) x6) (Int32.toNatClampNeg (x1 + (2 : Int32))) x7)) H := hP
      replace hD : va_D A (wd_f87564 k n_t n_text n_readPage n_page n_trial n_book n_kept n_isKept n_seenStation n_seenOther n_seenWide n_seenWas n_sines n_at n_column n_gram n_right n_work v_thrown v_textSize v_place v_stations v_readStations v_doings v_seen v_seed v_wide v_up v_low r_text (upd (upd (upd r_readPage (Int32.toNatClampNeg (x1 + (0 : Int32))) t2) (Int32.toNatClampNeg (x1 + (1 : Int32))) x6) (Int32.toNatClampNeg (x1 + (2 : Int32))) x7)) := hD
      refine lv_aload_n hx hb dX6_readLeg_260 rfl (lv_at hl 1 rfl) ?_
      refine va_get (D := (dC, dI)) (ci := 6) (v := .ref n_readPage) (C := RX6) (T := TX6) (N := 28) hx hb hts hinX6 hown hG.1 hP 0 rfl rfl 6 (by decide) k0 (fun _ h9 => h9) rfl dX6_readLeg_261 ?_
      refine lv_iload_n hx hb dX6_readLeg_264 rfl (lv_at hl 2 rfl) ?_
      refine lv_iconst (v := (3 : Int32)) hx hb dX6_readLeg_265 (by decide) ?_
      refine lv_iadd hx hb dX6_readLeg_266 ?_
      refine lv_iload hx hb dX6_readLeg_267 (lv_at hl 0 rfl) ?_
      obtain ⟨hi6, hm⟩ := chk_some hm
      refine va_iast hx hb hG.1 hP hD hS 2 0 rfl rfl hi6 dX6_readLeg_269 (fun H locs hP hD hS => ?_)
      replace hP : va_P (dC, dI) vwCl (wd_f87564 k n_t n_text n_readPage n_page n_trial n_book n_kept n_isKept n_seenStation n_seenOther n_seenWide n_seenWas n_sines n_at n_column n_gram n_right n_work v_thrown v_textSize v_place v_stations v_readStations v_doings v_seen v_seed v_wide v_up v_low r_text (upd (upd (upd (upd r_readPage (Int32.toNatClampNeg (x1 + (0 : Int32))) t2) (Int32.toNatClampNeg (x1 + (1 : Int32))) x6) (Int32.toNatClampNeg (x1 + (2 : Int32))) x7) (Int32.toNatClampNeg (x1 + (3 : Int32))) s0)) H := hP
      replace hD : va_D A (wd_f87564 k n_t n_text n_readPage n_page n_trial n_book n_kept n_isKept n_seenStation n_seenOther n_seenWide n_seenWas n_sines n_at n_column n_gram n_right n_work v_thrown v_textSize v_place v_stations v_readStations v_doings v_seen v_seed v_wide v_up v_low r_text (upd (upd (upd (upd r_readPage (Int32.toNatClampNeg (x1 + (0 : Int32))) t2) (Int32.toNatClampNeg (x1 + (1 : Int32))) x6) (Int32.toNatClampNeg (x1 + (2 : Int32))) x7) (Int32.toNatClampNeg (x1 + (3 : Int32))) s0)) := hD
      refine lv_aload_n hx hb dX6_readLeg_270 rfl (lv_at hl 1 rfl) ?_
      refine va_get (D := (dC, dI)) (ci := 6) (v := .ref n_readPage) (C := RX6) (T := TX6) (N := 28) hx hb hts hinX6 hown hG.1 hP 0 rfl rfl 6 (by decide) k0 (fun _ h9 => h9) rfl dX6_readLeg_271 ?_
      refine lv_iload_n hx hb dX6_readLeg_274 rfl (lv_at hl 2 rfl) ?_
      refine lv_iconst (v := (4 : Int32)) hx hb dX6_readLeg_275 (by decide) ?_
      refine lv_iadd hx hb dX6_readLeg_276 ?_
      refine lv_iload_n hx hb dX6_readLeg_277 rfl (lv_at hl 3 rfl) ?_
      obtain ⟨hi7, hm⟩ := chk_some hm
      refine va_iast hx hb hG.1 hP hD hS 2 0 rfl rfl hi7 dX6_readLeg_278 (fun H locs hP hD hS => ?_)
      replace hP : va_P (dC, dI) vwCl (wd_f87564 k n_t n_text n_readPage n_page n_trial n_book n_kept n_isKept n_seenStation n_seenOther n_seenWide n_seenWas n_sines n_at n_column n_gram n_right n_work v_thrown v_textSize v_place v_stations v_readStations v_doings v_seen v_seed v_wide v_up v_low r_text (upd (upd (upd (upd (upd r_readPage (Int32.toNatClampNeg (x1 + (0 : Int32))) t2) (Int32.toNatClampNeg (x1 + (1 : Int32))) x6) (Int32.toNatClampNeg (x1 + (2 : Int32))) x7) (Int32.toNatClampNeg (x1 + (3 : Int32))) s0) (Int32.toNatClampNeg (x1 + (4 : Int32))) x2)) H := hP
      replace hD : va_D A (wd_f87564 k n_t n_text n_readPage n_page n_trial n_book n_kept n_isKept n_seenStation n_seenOther n_seenWide n_seenWas n_sines n_at n_column n_gram n_right n_work v_thrown v_textSize v_place v_stations v_readStations v_doings v_seen v_seed v_wide v_up v_low r_text (upd (upd (upd (upd (upd r_readPage (Int32.toNatClampNeg (x1 + (0 : Int32))) t2) (Int32.toNatClampNeg (x1 + (1 : Int32))) x6) (Int32.toNatClampNeg (x1 + (2 : Int32))) x7) (Int32.toNatClampNeg (x1 + (3 : Int32))) s0) (Int32.toNatClampNeg (x1 + (4 : Int32))) x2)) := hD
      refine lv_aload_n hx hb dX6_readLeg_279 rfl (lv_at hl 1 rfl) ?_
      refine va_get (D := (dC, dI)) (ci := 6) (v := .ref n_readPage) (C := RX6) (T := TX6) (N := 28) hx hb hts hinX6 hown hG.1 hP 0 rfl rfl 6 (by decide) k0 (fun _ h9 => h9) rfl dX6_readLeg_280 ?_
      refine lv_iload_n hx hb dX6_readLeg_283 rfl (lv_at hl 2 rfl) ?_
      refine lv_iconst (v := (5 : Int32)) hx hb dX6_readLeg_284 (by decide) ?_
      refine lv_iadd hx hb dX6_readLeg_285 ?_
      refine lv_iload_n hx hb dX6_readLeg_286 rfl (lv_at hl 4 rfl) ?_
      obtain ⟨hi8, hm⟩ := chk_some hm
      refine va_iast hx hb hG.1 hP hD hS 2 0 rfl rfl hi8 dX6_readLeg_287 (fun H locs hP hD hS => ?_)
      replace hP : va_P (dC, dI) vwCl (wd_f87564 k n_t n_text n_readPage n_page n_trial n_book n_kept n_isKept n_seenStation n_seenOther n_seenWide n_seenWas n_sines n_at n_column n_gram n_right n_work v_thrown v_textSize v_place v_stations v_readStations v_doings v_seen v_seed v_wide v_up v_low r_text (upd (upd (upd (upd (upd (upd r_readPage (Int32.toNatClampNeg (x1 + (0 : Int32))) t2) (Int32.toNatClampNeg (x1 + (1 : Int32))) x6) (Int32.toNatClampNeg (x1 + (2 : Int32))) x7) (Int32.toNatClampNeg (x1 + (3 : Int32))) s0) (Int32.toNatClampNeg (x1 + (4 : Int32))) x2) (Int32.toNatClampNeg (x1 + (5 : Int32))) x3)) H := hP
      replace hD : va_D A (wd_f87564 k n_t n_text n_readPage n_page n_trial n_book n_kept n_isKept n_seenStation n_seenOther n_seenWide n_seenWas n_sines n_at n_column n_gram n_right n_work v_thrown v_textSize v_place v_stations v_readStations v_doings v_seen v_seed v_wide v_up v_low r_text (upd (upd (upd (upd (upd (upd r_readPage (Int32.toNatClampNeg (x1 + (0 : Int32))) t2) (Int32.toNatClampNeg (x1 + (1 : Int32))) x6) (Int32.toNatClampNeg (x1 + (2 : Int32))) x7) (Int32.toNatClampNeg (x1 + (3 : Int32))) s0) (Int32.toNatClampNeg (x1 + (4 : Int32))) x2) (Int32.toNatClampNeg (x1 + (5 : Int32))) x3)) := hD
      refine lv_aload_n hx hb dX6_readLeg_288 rfl (lv_at hl 1 rfl) ?_
      refine va_get (D := (dC, dI)) (ci := 6) (v := .ref n_readPage) (C := RX6) (T := TX6) (N := 28) hx hb hts hinX6 hown hG.1 hP 0 rfl rfl 6 (by decide) k0 (fun _ h9 => h9) rfl dX6_readLeg_289 ?_
      refine lv_iconst (v := (0 : Int32)) hx hb dX6_readLeg_292 (by decide) ?_
      refine lv_dup2_11 hx hb dX6_readLeg_293 rfl rfl ?_
      obtain ⟨hi9, hm⟩ := chk_some hm
      refine va_iald hx hb hG.1 hP 2 0 rfl rfl hi9 dX6_readLeg_294 ?_
      refine lv_iconst (v := (1 : Int32)) hx hb dX6_readLeg_295 (by decide) ?_
      refine lv_iadd hx hb dX6_readLeg_296 ?_
      refine lv_topi (fun t10 et10 => ?_)
      replace hm := (nmd_eq et10).trans hm
      obtain ⟨hi11, hm⟩ := chk_some hm
      refine va_iast hx hb hG.1 hP hD hS 2 0 rfl rfl hi11 dX6_readLeg_297 (fun H locs hP hD hS => ?_)
      replace hP : va_P (dC, dI) vwCl (wd_f87564 k n_t n_text n_readPage n_page n_trial n_book n_kept n_isKept n_seenStation n_seenOther n_seenWide n_seenWas n_sines n_at n_column n_gram n_right n_work v_thrown v_textSize v_place v_stations v_readStations v_doings v_seen v_seed v_wide v_up v_low r_text (upd (upd (upd (upd (upd (upd (upd r_readPage (Int32.toNatClampNeg (x1 + (0 : Int32))) t2) (Int32.toNatClampNeg (x1 + (1 : Int32))) x6) (Int32.toNatClampNeg (x1 + (2 : Int32))) x7) (Int32.toNatClampNeg (x1 + (3 : Int32))) s0) (Int32.toNatClampNeg (x1 + (4 : Int32))) x2) (Int32.toNatClampNeg (x1 + (5 : Int32))) x3) (Int32.toNatClampNeg (0 : Int32)) t10)) H := hP
      replace hD : va_D A (wd_f87564 k n_t n_text n_readPage n_page n_trial n_book n_kept n_isKept n_seenStation n_seenOther n_seenWide n_seenWas n_sines n_at n_column n_gram n_right n_work v_thrown v_textSize v_place v_stations v_readStations v_doings v_seen v_seed v_wide v_up v_low r_text (upd (upd (upd (upd (upd (upd (upd r_readPage (Int32.toNatClampNeg (x1 + (0 : Int32))) t2) (Int32.toNatClampNeg (x1 + (1 : Int32))) x6) (Int32.toNatClampNeg (x1 + (2 : Int32))) x7) (Int32.toNatClampNeg (x1 + (3 : Int32))) s0) (Int32.toNatClampNeg (x1 + (4 : Int32))) x2) (Int32.toNatClampNeg (x1 + (5 : Int32))) x3) (Int32.toNatClampNeg (0 : Int32)) t10)) := hD
      refine lv_iconst (v := (1 : Int32)) hx hb dX6_readLeg_298 (by decide) ?_
      exact RET _ _ _ _ _ _ _ dX6_readLeg_299 hm (by decide +kernel) hP hD hS
    · replace hm := ifp c1 hm
      refine lv_iconst (v := (0 : Int32)) hx hb dX6_readLeg_222 (by decide) ?_
      exact RET _ _ _ _ _ _ _ dX6_readLeg_223 hm (by decide +kernel) hP hD hS
  have J_192 : ∀ (v_place : Int32) (r_readPage : Nat → Int32) (x1 : Int32) (x2 : Int32) (x3 : Int32) (x4 : Int32) (x5 : Int32) (x6 : Int32) (s0 : Int32) (H : Heap) (locs : List Loc) (ls : Array Slot), lv_has ls 9 [(0, .ref n_t), (1, .int x1), (2, .int x2), (3, .int x3), (4, .int x4), (5, .int x5), (6, .int x6)] → va_P (dC, dI) vwCl (wd_f87564 k n_t n_text n_readPage n_page n_trial n_book n_kept n_isKept n_seenStation n_seenOther n_seenWide n_seenWas n_sines n_at n_column n_gram n_right n_work v_thrown v_textSize v_place v_stations v_readStations v_doings v_seen v_seed v_wide v_up v_low r_text r_readPage) H → va_D A (wd_f87564 k n_t n_text n_readPage n_page n_trial n_book n_kept n_isKept n_seenStation n_seenOther n_seenWide n_seenWas n_sines n_at n_column n_gram n_right n_work v_thrown v_textSize v_place v_stations v_readStations v_doings v_seen v_seed v_wide v_up v_low r_text r_readPage) → va_S A s.heap H locs → f_X6_readLeg_J192 v_textSize v_readStations r_text v_place r_readPage x1 x2 x3 x4 x5 x6 s0 = some (o_r, o_v_place, o_r_readPage) → W p l e rm_X6_readLeg s m args below meth c H locs 0 0 Q (F0 m 192 ls [.int s0]) := by
    intro v_place r_readPage x1 x2 x3 x4 x5 x6 s0 H locs ls hl hP hD hS hm
    unfold f_X6_readLeg_J192 at hm
    refine lv_istore (lv' := [(7, .int s0), (0, .ref n_t), (1, .int x1), (2, .int x2), (3, .int x3), (4, .int x4), (5, .int x5), (6, .int x6)]) hx hb dX6_readLeg_192 hl (by decide) rfl (fun ls hl => ?_)
    refine lv_iload hx hb dX6_readLeg_194 (lv_at hl 0 rfl) ?_
    refine lv_bipush (v := (-9 : Int32)) hx hb dX6_readLeg_196 (by decide) ?_
    refine lv_icmp_ne (tgt := 206) hx hb dX6_readLeg_198 (by decide) (fun c12 => ?_) (fun c12 => ?_)
    · replace hm := ifn c12 hm
      refine lv_aload_n hx hb dX6_readLeg_206 rfl (lv_at hl 1 rfl) ?_
      refine lv_iconst (v := (1 : Int32)) hx hb dX6_readLeg_207 (by decide) ?_
      refine lv_bipush (v := (9 : Int32)) hx hb dX6_readLeg_208 (by decide) ?_
      obtain ⟨r13, w14, e15, hm⟩ := bnd2_some hm
      refine g_calli (w2 := (wd_f87564 k n_t n_text n_readPage n_page n_trial n_book n_kept n_isKept n_seenStation n_seenOther n_seenWide n_seenWas n_sines n_at n_column n_gram n_right n_work v_thrown v_textSize w14 v_stations v_readStations v_doings v_seen v_seed v_wide v_up v_low r_text r_readPage)) (va_runV (As := [.int (1 : Int32), .int (9 : Int32)]) (rest := []) ⟨hx, hb, hml, hown, hts⟩ (m_X6_figure l dC dI k H.size n_t n_text n_readPage n_page n_trial n_book n_kept n_isKept n_seenStation n_seenOther n_seenWide n_seenWas n_sines n_at n_column n_gram n_right n_work v_thrown v_textSize v_place v_stations v_readStations v_doings v_seen v_seed v_wide v_up v_low r_text (1 : Int32) (9 : Int32) e15) (cwV 2 hts gX6_readLeg_X6_figure rfl rfl rfl (by decide +kernel) ⟨Nat.le_of_ble_eq_true rfl, Nat.le_of_ble_eq_true rfl⟩) (g_preV hG hP hD hS hA [0, 1] rfl (by decide) (ci := 6) (q0 := 0) rfl rfl) rfl rfl hl.1 rfl (lv_room (Nat.le_of_ble_eq_true rfl)) dX6_readLeg_210 ⟨Nat.le_of_ble_eq_true rfl, Nat.le_of_ble_eq_true rfl⟩) hP hD hS hA [0, 1] [2] [1, 2, 0] rfl rfl (by decide) (by decide) rfl (by decide) (fun H locs hP hD hS => ?_)
      exact J_213 _ _ _ _ _ _ _ _ _ _ _ _ _ (lv_sub hl [1, 2, 3, 4, 5, 6, 7, 0] rfl) hP hD hS hm
    · replace hm := ifp c12 hm
      refine lv_bipush (v := (-9 : Int32)) hx hb dX6_readLeg_201 (by decide) ?_
      refine lv_goto (tgt := 213) hx hb dX6_readLeg_203 (by decide) ?_
      exact J_213 _ _ _ _ _ _ _ _ _ _ _ _ _ (lv_sub hl [1, 2, 3, 4, 5, 6, 7, 0] rfl) hP hD hS hm
  have J_172 : ∀ (v_place : Int32) (r_readPage : Nat → Int32) (x1 : Int32) (x2 : Int32) (x3 : Int32) (x4 : Int32) (x5 : Int32) (s0 : Int32) (H : Heap) (locs : List Loc) (ls : Array Slot), lv_has ls 9 [(0, .ref n_t), (1, .int x1), (2, .int x2), (3, .int x3), (4, .int x4), (5, .int x5)] → va_P (dC, dI) vwCl (wd_f87564 k n_t n_text n_readPage n_page n_trial n_book n_kept n_isKept n_seenStation n_seenOther n_seenWide n_seenWas n_sines n_at n_column n_gram n_right n_work v_thrown v_textSize v_place v_stations v_readStations v_doings v_seen v_seed v_wide v_up v_low r_text r_readPage) H → va_D A (wd_f87564 k n_t n_text n_readPage n_page n_trial n_book n_kept n_isKept n_seenStation n_seenOther n_seenWide n_seenWas n_sines n_at n_column n_gram n_right n_work v_thrown v_textSize v_place v_stations v_readStations v_doings v_seen v_seed v_wide v_up v_low r_text r_readPage) → va_S A s.heap H locs → f_X6_readLeg_J172 v_textSize v_readStations r_text v_place r_readPage x1 x2 x3 x4 x5 s0 = some (o_r, o_v_place, o_r_readPage) → W p l e rm_X6_readLeg s m args below meth c H locs 0 0 Q (F0 m 172 ls [.int s0]) := by
    intro v_place r_readPage x1 x2 x3 x4 x5 s0 H locs ls hl hP hD hS hm
    unfold f_X6_readLeg_J172 at hm
    refine lv_istore (lv' := [(6, .int s0), (0, .ref n_t), (1, .int x1), (2, .int x2), (3, .int x3), (4, .int x4), (5, .int x5)]) hx hb dX6_readLeg_172 hl (by decide) rfl (fun ls hl => ?_)
    refine lv_iload hx hb dX6_readLeg_174 (lv_at hl 0 rfl) ?_
    refine lv_bipush (v := (-9 : Int32)) hx hb dX6_readLeg_176 (by decide) ?_
    refine lv_icmp_ne (tgt := 186) hx hb dX6_readLeg_178 (by decide) (fun c16 => ?_) (fun c16 => ?_)
    · replace hm := ifn c16 hm
      refine lv_aload_n hx hb dX6_readLeg_186 rfl (lv_at hl 1 rfl) ?_
      refine lv_iconst (v := (0 : Int32)) hx hb dX6_readLeg_187 (by decide) ?_
      refine lv_iconst (v := (4 : Int32)) hx hb dX6_readLeg_188 (by decide) ?_
      obtain ⟨r17, w18, e19, hm⟩ := bnd2_some hm
      refine g_calli (w2 := (wd_f87564 k n_t n_text n_readPage n_page n_trial n_book n_kept n_isKept n_seenStation n_seenOther n_seenWide n_seenWas n_sines n_at n_column n_gram n_right n_work v_thrown v_textSize w18 v_stations v_readStations v_doings v_seen v_seed v_wide v_up v_low r_text r_readPage)) (va_runV (As := [.int (0 : Int32), .int (4 : Int32)]) (rest := []) ⟨hx, hb, hml, hown, hts⟩ (m_X6_figure l dC dI k H.size n_t n_text n_readPage n_page n_trial n_book n_kept n_isKept n_seenStation n_seenOther n_seenWide n_seenWas n_sines n_at n_column n_gram n_right n_work v_thrown v_textSize v_place v_stations v_readStations v_doings v_seen v_seed v_wide v_up v_low r_text (0 : Int32) (4 : Int32) e19) (cwV 2 hts gX6_readLeg_X6_figure rfl rfl rfl (by decide +kernel) ⟨Nat.le_of_ble_eq_true rfl, Nat.le_of_ble_eq_true rfl⟩) (g_preV hG hP hD hS hA [0, 1] rfl (by decide) (ci := 6) (q0 := 0) rfl rfl) rfl rfl hl.1 rfl (lv_room (Nat.le_of_ble_eq_true rfl)) dX6_readLeg_189 ⟨Nat.le_of_ble_eq_true rfl, Nat.le_of_ble_eq_true rfl⟩) hP hD hS hA [0, 1] [2] [1, 2, 0] rfl rfl (by decide) (by decide) rfl (by decide) (fun H locs hP hD hS => ?_)
      exact J_192 _ _ _ _ _ _ _ _ _ _ _ _ (lv_sub hl [1, 2, 3, 4, 5, 6, 0] rfl) hP hD hS hm
    · replace hm := ifp c16 hm
      refine lv_bipush (v := (-9 : Int32)) hx hb dX6_readLeg_181 (by decide) ?_
      refine lv_goto (tgt := 192) hx hb dX6_readLeg_183 (by decide) ?_
      exact J_192 _ _ _ _ _ _ _ _ _ _ _ _ (lv_sub hl [1, 2, 3, 4, 5, 6, 0] rfl) hP hD hS hm
  have J_154 : ∀ (v_place : Int32) (r_readPage : Nat → Int32) (x1 : Int32) (x2 : Int32) (x3 : Int32) (x4 : Int32) (s0 : Int32) (H : Heap) (locs : List Loc) (ls : Array Slot), lv_has ls 9 [(0, .ref n_t), (1, .int x1), (2, .int x2), (3, .int x3), (4, .int x4)] → va_P (dC, dI) vwCl (wd_f87564 k n_t n_text n_readPage n_page n_trial n_book n_kept n_isKept n_seenStation n_seenOther n_seenWide n_seenWas n_sines n_at n_column n_gram n_right n_work v_thrown v_textSize v_place v_stations v_readStations v_doings v_seen v_seed v_wide v_up v_low r_text r_readPage) H → va_D A (wd_f87564 k n_t n_text n_readPage n_page n_trial n_book n_kept n_isKept n_seenStation n_seenOther n_seenWide n_seenWas n_sines n_at n_column n_gram n_right n_work v_thrown v_textSize v_place v_stations v_readStations v_doings v_seen v_seed v_wide v_up v_low r_text r_readPage) → va_S A s.heap H locs → f_X6_readLeg_J154 v_textSize v_readStations r_text v_place r_readPage x1 x2 x3 x4 s0 = some (o_r, o_v_place, o_r_readPage) → W p l e rm_X6_readLeg s m args below meth c H locs 0 0 Q (F0 m 154 ls [.int s0]) := by
    intro v_place r_readPage x1 x2 x3 x4 s0 H locs ls hl hP hD hS hm
    unfold f_X6_readLeg_J154 at hm
    refine lv_istore (lv' := [(5, .int s0), (0, .ref n_t), (1, .int x1), (2, .int x2), (3, .int x3), (4, .int x4)]) hx hb dX6_readLeg_154 hl (by decide) rfl (fun ls hl => ?_)
    refine lv_iload hx hb dX6_readLeg_156 (lv_at hl 0 rfl) ?_
    refine lv_bipush (v := (-9 : Int32)) hx hb dX6_readLeg_158 (by decide) ?_
    refine lv_icmp_ne (tgt := 168) hx hb dX6_readLeg_160 (by decide) (fun c20 => ?_) (fun c20 => ?_)
    · replace hm := ifn c20 hm
      refine lv_aload_n hx hb dX6_readLeg_168 rfl (lv_at hl 1 rfl) ?_
      obtain ⟨r21, w22, e23, hm⟩ := bnd2_some hm
      refine g_calli (w2 := (wd_f87564 k n_t n_text n_readPage n_page n_trial n_book n_kept n_isKept n_seenStation n_seenOther n_seenWide n_seenWas n_sines n_at n_column n_gram n_right n_work v_thrown v_textSize w22 v_stations v_readStations v_doings v_seen v_seed v_wide v_up v_low r_text r_readPage)) (va_runV (As := []) (rest := []) ⟨hx, hb, hml, hown, hts⟩ (m_X6_bearing l dC dI k H.size n_t n_text n_readPage n_page n_trial n_book n_kept n_isKept n_seenStation n_seenOther n_seenWide n_seenWas n_sines n_at n_column n_gram n_right n_work v_thrown v_textSize v_place v_stations v_readStations v_doings v_seen v_seed v_wide v_up v_low r_text  e23) (cwV 0 hts gX6_readLeg_X6_bearing rfl rfl rfl (by decide +kernel) ⟨Nat.le_of_ble_eq_true rfl, Nat.le_of_ble_eq_true rfl⟩) (g_preV hG hP hD hS hA [0, 1] rfl (by decide) (ci := 6) (q0 := 0) rfl rfl) rfl rfl hl.1 rfl (lv_room (Nat.le_of_ble_eq_true rfl)) dX6_readLeg_169 ⟨Nat.le_of_ble_eq_true rfl, Nat.le_of_ble_eq_true rfl⟩) hP hD hS hA [0, 1] [2] [1, 2, 0] rfl rfl (by decide) (by decide) rfl (by decide) (fun H locs hP hD hS => ?_)
      exact J_172 _ _ _ _ _ _ _ _ _ _ _ (lv_sub hl [1, 2, 3, 4, 5, 0] rfl) hP hD hS hm
    · replace hm := ifp c20 hm
      refine lv_bipush (v := (-9 : Int32)) hx hb dX6_readLeg_163 (by decide) ?_
      refine lv_goto (tgt := 172) hx hb dX6_readLeg_165 (by decide) ?_
      exact J_172 _ _ _ _ _ _ _ _ _ _ _ (lv_sub hl [1, 2, 3, 4, 5, 0] rfl) hP hD hS hm
  have J_149 : ∀ (v_place : Int32) (r_readPage : Nat → Int32) (x1 : Int32) (x2 : Int32) (x3 : Int32) (x4 : Int32) (s1 : Int32) (H : Heap) (locs : List Loc) (ls : Array Slot), lv_has ls 9 [(0, .ref n_t), (1, .int x1), (2, .int x2), (3, .int x3), (4, .int x4)] → va_P (dC, dI) vwCl (wd_f87564 k n_t n_text n_readPage n_page n_trial n_book n_kept n_isKept n_seenStation n_seenOther n_seenWide n_seenWas n_sines n_at n_column n_gram n_right n_work v_thrown v_textSize v_place v_stations v_readStations v_doings v_seen v_seed v_wide v_up v_low r_text r_readPage) H → va_D A (wd_f87564 k n_t n_text n_readPage n_page n_trial n_book n_kept n_isKept n_seenStation n_seenOther n_seenWide n_seenWas n_sines n_at n_column n_gram n_right n_work v_thrown v_textSize v_place v_stations v_readStations v_doings v_seen v_seed v_wide v_up v_low r_text r_readPage) → va_S A s.heap H locs → f_X6_readLeg_J149 v_textSize v_readStations r_text v_place r_readPage x1 x2 x3 x4 s1 = some (o_r, o_v_place, o_r_readPage) → W p l e rm_X6_readLeg s m args below meth c H locs 0 0 Q (F0 m 149 ls [.int s1, .ref n_t]) := by
    intro v_place r_readPage x1 x2 x3 x4 s1 H locs ls hl hP hD hS hm
    unfold f_X6_readLeg_J149 at hm
    refine lv_bipush (v := (9 : Int32)) hx hb dX6_readLeg_149 (by decide) ?_
    obtain ⟨r24, w25, e26, hm⟩ := bnd2_some hm
    refine g_calli (w2 := (wd_f87564 k n_t n_text n_readPage n_page n_trial n_book n_kept n_isKept n_seenStation n_seenOther n_seenWide n_seenWas n_sines n_at n_column n_gram n_right n_work v_thrown v_textSize w25 v_stations v_readStations v_doings v_seen v_seed v_wide v_up v_low r_text r_readPage)) (va_runV (As := [.int s1, .int (9 : Int32)]) (rest := []) ⟨hx, hb, hml, hown, hts⟩ (m_X6_figure l dC dI k H.size n_t n_text n_readPage n_page n_trial n_book n_kept n_isKept n_seenStation n_seenOther n_seenWide n_seenWas n_sines n_at n_column n_gram n_right n_work v_thrown v_textSize v_place v_stations v_readStations v_doings v_seen v_seed v_wide v_up v_low r_text s1 (9 : Int32) e26) (cwV 2 hts gX6_readLeg_X6_figure rfl rfl rfl (by decide +kernel) ⟨Nat.le_of_ble_eq_true rfl, Nat.le_of_ble_eq_true rfl⟩) (g_preV hG hP hD hS hA [0, 1] rfl (by decide) (ci := 6) (q0 := 0) rfl rfl) rfl rfl hl.1 rfl (lv_room (Nat.le_of_ble_eq_true rfl)) dX6_readLeg_151 ⟨Nat.le_of_ble_eq_true rfl, Nat.le_of_ble_eq_true rfl⟩) hP hD hS hA [0, 1] [2] [1, 2, 0] rfl rfl (by decide) (by decide) rfl (by decide) (fun H locs hP hD hS => ?_)
    exact J_154 _ _ _ _ _ _ _ _ _ _ (lv_sub hl [0, 1, 2, 3, 4] rfl) hP hD hS hm
  have J_91 : ∀ (v_place : Int32) (r_readPage : Nat → Int32) (x1 : Int32) (x2 : Int32) (s0 : Int32) (H : Heap) (locs : List Loc) (ls : Array Slot), lv_has ls 9 [(0, .ref n_t), (1, .int x1), (2, .int x2)] → va_P (dC, dI) vwCl (wd_f87564 k n_t n_text n_readPage n_page n_trial n_book n_kept n_isKept n_seenStation n_seenOther n_seenWide n_seenWas n_sines n_at n_column n_gram n_right n_work v_thrown v_textSize v_place v_stations v_readStations v_doings v_seen v_seed v_wide v_up v_low r_text r_readPage) H → va_D A (wd_f87564 k n_t n_text n_readPage n_page n_trial n_book n_kept n_isKept n_seenStation n_seenOther n_seenWide n_seenWas n_sines n_at n_column n_gram n_right n_work v_thrown v_textSize v_place v_stations v_readStations v_doings v_seen v_seed v_wide v_up v_low r_text r_readPage) → va_S A s.heap H locs → f_X6_readLeg_J91 v_textSize v_readStations r_text v_place r_readPage x1 x2 s0 = some (o_r, o_v_place, o_r_readPage) → W p l e rm_X6_readLeg s m args below meth c H locs 0 0 Q (F0 m 91 ls [.int s0]) := by
    intro v_place r_readPage x1 x2 s0 H locs ls hl hP hD hS hm
    unfold f_X6_readLeg_J91 at hm
    refine lv_istore_n (lv' := [(3, .int s0), (0, .ref n_t), (1, .int x1), (2, .int x2)]) hx hb dX6_readLeg_91 rfl hl (by decide) rfl (fun ls hl => ?_)
    refine lv_iload_n hx hb dX6_readLeg_92 rfl (lv_at hl 0 rfl) ?_
    refine lv_bipush (v := (-9 : Int32)) hx hb dX6_readLeg_93 (by decide) ?_
    refine lv_icmp_ne (tgt := 100) hx hb dX6_readLeg_95 (by decide) (fun c27 => ?_) (fun c27 => ?_)
    · replace hm := ifn c27 hm
      refine lv_iload_n hx hb dX6_readLeg_100 rfl (lv_at hl 0 rfl) ?_
      refine lv_iload_n hx hb dX6_readLeg_101 rfl (lv_at hl 3 rfl) ?_
      refine lv_icmp_ne (tgt := 117) hx hb dX6_readLeg_102 (by decide) (fun c28 => ?_) (fun c28 => ?_)
      · replace hm := ifn c28 hm
        refine lv_aload_n hx hb dX6_readLeg_117 rfl (lv_at hl 1 rfl) ?_
        refine lv_iconst (v := (0 : Int32)) hx hb dX6_readLeg_118 (by decide) ?_
        refine lv_bipush (v := (9 : Int32)) hx hb dX6_readLeg_119 (by decide) ?_
        obtain ⟨r29, w30, e31, hm⟩ := bnd2_some hm
        refine g_calli (w2 := (wd_f87564 k n_t n_text n_readPage n_page n_trial n_book n_kept n_isKept n_seenStation n_seenOther n_seenWide n_seenWas n_sines n_at n_column n_gram n_right n_work v_thrown v_textSize w30 v_stations v_readStations v_doings v_seen v_seed v_wide v_up v_low r_text r_readPage)) (va_runV (As := [.int (0 : Int32), .int (9 : Int32)]) (rest := []) ⟨hx, hb, hml, hown, hts⟩ (m_X6_figure l dC dI k H.size n_t n_text n_readPage n_page n_trial n_book n_kept n_isKept n_seenStation n_seenOther n_seenWide n_seenWas n_sines n_at n_column n_gram n_right n_work v_thrown v_textSize v_place v_stations v_readStations v_doings v_seen v_seed v_wide v_up v_low r_text (0 : Int32) (9 : Int32) e31) (cwV 2 hts gX6_readLeg_X6_figure rfl rfl rfl (by decide +kernel) ⟨Nat.le_of_ble_eq_true rfl, Nat.le_of_ble_eq_true rfl⟩) (g_preV hG hP hD hS hA [0, 1] rfl (by decide) (ci := 6) (q0 := 0) rfl rfl) rfl rfl hl.1 rfl (lv_room (Nat.le_of_ble_eq_true rfl)) dX6_readLeg_121 ⟨Nat.le_of_ble_eq_true rfl, Nat.le_of_ble_eq_true rfl⟩) hP hD hS hA [0, 1] [2] [1, 2, 0] rfl rfl (by decide) (by decide) rfl (by decide) (fun H locs hP hD hS => ?_)
        refine lv_istore (lv' := [(4, .int r29), (3, .int s0), (0, .ref n_t), (1, .int x1), (2, .int x2)]) hx hb dX6_readLeg_124 hl (by decide) rfl (fun ls hl => ?_)
        refine lv_iload hx hb dX6_readLeg_126 (lv_at hl 0 rfl) ?_
        refine lv_bipush (v := (-9 : Int32)) hx hb dX6_readLeg_128 (by decide) ?_
        refine lv_icmp_ne (tgt := 138) hx hb dX6_readLeg_130 (by decide) (fun c32 => ?_) (fun c32 => ?_)
        · replace hm := ifn c32 hm
          refine lv_aload_n hx hb dX6_readLeg_138 rfl (lv_at hl 2 rfl) ?_
          refine lv_iload hx hb dX6_readLeg_139 (lv_at hl 0 rfl) ?_
          refine lv_if_ne (tgt := 148) hx hb dX6_readLeg_141 (by decide) (fun c33 => ?_) (fun c33 => ?_)
          · replace hm := ifn c33 hm
            refine lv_iconst (v := (0 : Int32)) hx hb dX6_readLeg_148 (by decide) ?_
            exact J_149 _ _ _ _ _ _ _ _ _ _ (lv_sub hl [2, 3, 4, 1, 0] rfl) hP hD hS hm
          · replace hm := ifp c33 hm
            refine lv_iconst (v := (1 : Int32)) hx hb dX6_readLeg_144 (by decide) ?_
            refine lv_goto (tgt := 149) hx hb dX6_readLeg_145 (by decide) ?_
            exact J_149 _ _ _ _ _ _ _ _ _ _ (lv_sub hl [2, 3, 4, 1, 0] rfl) hP hD hS hm
        · replace hm := ifp c32 hm
          refine lv_bipush (v := (-9 : Int32)) hx hb dX6_readLeg_133 (by decide) ?_
          refine lv_goto (tgt := 154) hx hb dX6_readLeg_135 (by decide) ?_
          exact J_154 _ _ _ _ _ _ _ _ _ _ (lv_sub hl [2, 3, 4, 1, 0] rfl) hP hD hS hm
      · replace hm := ifp c28 hm
        refine lv_aload_n hx hb dX6_readLeg_105 rfl (lv_at hl 1 rfl) ?_
        refine lv_dup hx hb dX6_readLeg_106 rfl ?_
        refine va_get (D := (dC, dI)) (ci := 6) (v := .int v_place) (C := RX6) (T := TX6) (N := 28) hx hb hts hinX6 hown hG.1 hP 0 rfl rfl 3 (by decide) k1 (fun _ h9 => h9) rfl dX6_readLeg_107 ?_
        refine lv_iconst (v := (1 : Int32)) hx hb dX6_readLeg_110 (by decide) ?_
        refine lv_isub hx hb dX6_readLeg_111 ?_
        refine lv_topi (fun t34 et34 => ?_)
        replace hm := (nmd_eq et34).trans hm
        refine va_put (D := (dC, dI)) (ci := 6) (v := .int t34) (ty := .int) (C := RX6) (T := TX6) (N := 28) hx hb hts hinX6 tyX6 tyX6_ok nmX6 hown hG.1 hP hD hS 0 rfl rfl 3 (by decide) k1 (fun _ h9 => h9) rfl (by decide +kernel) rfl rfl (Nat.le_of_ble_eq_true rfl) dX6_readLeg_112 (fun H locs hP hD hS => ?_)
        replace hP : va_P (dC, dI) vwCl (wd_f87564 k n_t n_text n_readPage n_page n_trial n_book n_kept n_isKept n_seenStation n_seenOther n_seenWide n_seenWas n_sines n_at n_column n_gram n_right n_work v_thrown v_textSize t34 v_stations v_readStations v_doings v_seen v_seed v_wide v_up v_low r_text r_readPage) H := hP
        replace hD : va_D A (wd_f87564 k n_t n_text n_readPage n_page n_trial n_book n_kept n_isKept n_seenStation n_seenOther n_seenWide n_seenWas n_sines n_at n_column n_gram n_right n_work v_thrown v_textSize t34 v_stations v_readStations v_doings v_seen v_seed v_wide v_up v_low r_text r_readPage) := hD
        refine lv_iconst (v := (0 : Int32)) hx hb dX6_readLeg_115 (by decide) ?_
        exact RET _ _ _ _ _ _ _ dX6_readLeg_116 hm (by decide +kernel) hP hD hS
    · replace hm := ifp c27 hm
      refine lv_iconst (v := (0 : Int32)) hx hb dX6_readLeg_98 (by decide) ?_
      exact RET _ _ _ _ _ _ _ dX6_readLeg_99 hm (by decide +kernel) hP hD hS
  unfold f_X6_readLeg at hm
  refine lv_aload_n hx hb dX6_readLeg_0 rfl (lv_at hl 0 rfl) ?_
  refine va_get (D := (dC, dI)) (ci := 6) (v := .ref n_text) (C := RX6) (T := TX6) (N := 28) hx hb hts hinX6 hown hG.1 hP 0 rfl rfl 1 (by decide) k2 (fun _ h9 => h9) rfl dX6_readLeg_1 ?_
  refine lv_aload_n hx hb dX6_readLeg_4 rfl (lv_at hl 0 rfl) ?_
  refine va_get (D := (dC, dI)) (ci := 6) (v := .int v_place) (C := RX6) (T := TX6) (N := 28) hx hb hts hinX6 hown hG.1 hP 0 rfl rfl 3 (by decide) k1 (fun _ h9 => h9) rfl dX6_readLeg_5 ?_
  obtain ⟨hi35, hm⟩ := chk_some hm
  refine va_iald hx hb hG.1 hP 1 0 rfl rfl hi35 dX6_readLeg_8 ?_
  refine lv_bipush (v := (108 : Int32)) hx hb dX6_readLeg_9 (by decide) ?_
  refine lv_icmp_ne (tgt := 33) hx hb dX6_readLeg_11 (by decide) (fun c36 => ?_) (fun c36 => ?_)
  · replace hm := ifn c36 hm
    refine lv_iconst (v := (0 : Int32)) hx hb dX6_readLeg_33 (by decide) ?_
    exact RET _ _ _ _ _ _ _ dX6_readLeg_34 hm (by decide +kernel) hP hD hS
  · replace hm := ifp c36 hm
    refine lv_aload_n hx hb dX6_readLeg_14 rfl (lv_at hl 0 rfl) ?_
    refine va_get (D := (dC, dI)) (ci := 6) (v := .ref n_readPage) (C := RX6) (T := TX6) (N := 28) hx hb hts hinX6 hown hG.1 hP 0 rfl rfl 6 (by decide) k0 (fun _ h9 => h9) rfl dX6_readLeg_15 ?_
    refine lv_iconst (v := (0 : Int32)) hx hb dX6_readLeg_18 (by decide) ?_
    obtain ⟨hi37, hm⟩ := chk_some hm
    refine va_iald hx hb hG.1 hP 2 0 rfl rfl hi37 dX6_readLeg_19 ?_
    refine lv_bipush (v := (8 : Int32)) hx hb dX6_readLeg_20 (by decide) ?_
    refine lv_icmp_eq (tgt := 33) hx hb dX6_readLeg_22 (by decide) (fun c38 => ?_) (fun c38 => ?_)
    · replace hm := ifp c38 hm
      refine lv_iconst (v := (0 : Int32)) hx hb dX6_readLeg_33 (by decide) ?_
      exact RET _ _ _ _ _ _ _ dX6_readLeg_34 hm (by decide +kernel) hP hD hS
    · replace hm := ifn c38 hm
      refine lv_aload_n hx hb dX6_readLeg_25 rfl (lv_at hl 0 rfl) ?_
      refine va_get (D := (dC, dI)) (ci := 6) (v := .int v_readStations) (C := RX6) (T := TX6) (N := 28) hx hb hts hinX6 hown hG.1 hP 0 rfl rfl 5 (by decide) k3 (fun _ h9 => h9) rfl dX6_readLeg_26 ?_
      refine lv_iconst (v := (1 : Int32)) hx hb dX6_readLeg_29 (by decide) ?_
      refine lv_icmp_ne (tgt := 35) hx hb dX6_readLeg_30 (by decide) (fun c39 => ?_) (fun c39 => ?_)
      · replace hm := ifn c39 hm
        refine lv_aload_n hx hb dX6_readLeg_35 rfl (lv_at hl 0 rfl) ?_
        refine lv_dup hx hb dX6_readLeg_36 rfl ?_
        refine va_get (D := (dC, dI)) (ci := 6) (v := .int v_place) (C := RX6) (T := TX6) (N := 28) hx hb hts hinX6 hown hG.1 hP 0 rfl rfl 3 (by decide) k1 (fun _ h9 => h9) rfl dX6_readLeg_37 ?_
        refine lv_iconst (v := (1 : Int32)) hx hb dX6_readLeg_40 (by decide) ?_
        refine lv_iadd hx hb dX6_readLeg_41 ?_
        refine lv_topi (fun t40 et40 => ?_)
        replace hm := (nmd_eq et40).trans hm
        refine va_put (D := (dC, dI)) (ci := 6) (v := .int t40) (ty := .int) (C := RX6) (T := TX6) (N := 28) hx hb hts hinX6 tyX6 tyX6_ok nmX6 hown hG.1 hP hD hS 0 rfl rfl 3 (by decide) k1 (fun _ h9 => h9) rfl (by decide +kernel) rfl rfl (Nat.le_of_ble_eq_true rfl) dX6_readLeg_42 (fun H locs hP hD hS => ?_)
        replace hP : va_P (dC, dI) vwCl (wd_f87564 k n_t n_text n_readPage n_page n_trial n_book n_kept n_isKept n_seenStation n_seenOther n_seenWide n_seenWas n_sines n_at n_column n_gram n_right n_work v_thrown v_textSize t40 v_stations v_readStations v_doings v_seen v_seed v_wide v_up v_low r_text r_readPage) H := hP
        replace hD : va_D A (wd_f87564 k n_t n_text n_readPage n_page n_trial n_book n_kept n_isKept n_seenStation n_seenOther n_seenWide n_seenWas n_sines n_at n_column n_gram n_right n_work v_thrown v_textSize t40 v_stations v_readStations v_doings v_seen v_seed v_wide v_up v_low r_text r_readPage) := hD
        refine lv_iconst (v := (2 : Int32)) hx hb dX6_readLeg_45 (by decide) ?_
        refine lv_bipush (v := (6 : Int32)) hx hb dX6_readLeg_46 (by decide) ?_
        refine lv_aload_n hx hb dX6_readLeg_48 rfl (lv_at hl 0 rfl) ?_
        refine va_get (D := (dC, dI)) (ci := 6) (v := .ref n_readPage) (C := RX6) (T := TX6) (N := 28) hx hb hts hinX6 hown hG.1 hP 0 rfl rfl 6 (by decide) k0 (fun _ h9 => h9) rfl dX6_readLeg_49 ?_
        refine lv_iconst (v := (0 : Int32)) hx hb dX6_readLeg_52 (by decide) ?_
        obtain ⟨hi41, hm⟩ := chk_some hm
        refine va_iald hx hb hG.1 hP 2 0 rfl rfl hi41 dX6_readLeg_53 ?_
        refine lv_imul hx hb dX6_readLeg_54 ?_
        refine lv_iadd hx hb dX6_readLeg_55 ?_
        refine lv_topi (fun t42 et42 => ?_)
        replace hm := (nmd_eq et42).trans hm
        refine lv_istore_n (lv' := [(1, .int t42), (0, .ref n_t)]) hx hb dX6_readLeg_56 rfl hl (by decide) rfl (fun ls hl => ?_)
        refine lv_aload_n hx hb dX6_readLeg_57 rfl (lv_at hl 1 rfl) ?_
        refine lv_iconst (v := (0 : Int32)) hx hb dX6_readLeg_58 (by decide) ?_
        refine lv_aload_n hx hb dX6_readLeg_59 rfl (lv_at hl 1 rfl) ?_
        refine va_get (D := (dC, dI)) (ci := 6) (v := .int v_readStations) (C := RX6) (T := TX6) (N := 28) hx hb hts hinX6 hown hG.1 hP 0 rfl rfl 5 (by decide) k3 (fun _ h9 => h9) rfl dX6_readLeg_60 ?_
        refine lv_iconst (v := (1 : Int32)) hx hb dX6_readLeg_63 (by decide) ?_
        refine lv_isub hx hb dX6_readLeg_64 ?_
        obtain ⟨r43, w44, e45, hm⟩ := bnd2_some hm
        refine g_calli (w2 := (wd_f87564 k n_t n_text n_readPage n_page n_trial n_book n_kept n_isKept n_seenStation n_seenOther n_seenWide n_seenWas n_sines n_at n_column n_gram n_right n_work v_thrown v_textSize w44 v_stations v_readStations v_doings v_seen v_seed v_wide v_up v_low r_text r_readPage)) (va_runV (As := [.int (0 : Int32), .int (v_readStations - (1 : Int32))]) (rest := []) ⟨hx, hb, hml, hown, hts⟩ (m_X6_figure l dC dI k H.size n_t n_text n_readPage n_page n_trial n_book n_kept n_isKept n_seenStation n_seenOther n_seenWide n_seenWas n_sines n_at n_column n_gram n_right n_work v_thrown v_textSize t40 v_stations v_readStations v_doings v_seen v_seed v_wide v_up v_low r_text (0 : Int32) (v_readStations - (1 : Int32)) e45) (cwV 2 hts gX6_readLeg_X6_figure rfl rfl rfl (by decide +kernel) ⟨Nat.le_of_ble_eq_true rfl, Nat.le_of_ble_eq_true rfl⟩) (g_preV hG hP hD hS hA [0, 1] rfl (by decide) (ci := 6) (q0 := 0) rfl rfl) rfl rfl hl.1 rfl (lv_room (Nat.le_of_ble_eq_true rfl)) dX6_readLeg_65 ⟨Nat.le_of_ble_eq_true rfl, Nat.le_of_ble_eq_true rfl⟩) hP hD hS hA [0, 1] [2] [1, 2, 0] rfl rfl (by decide) (by decide) rfl (by decide) (fun H locs hP hD hS => ?_)
        refine lv_istore_n (lv' := [(2, .int r43), (1, .int t42), (0, .ref n_t)]) hx hb dX6_readLeg_68 rfl hl (by decide) rfl (fun ls hl => ?_)
        refine lv_iload_n hx hb dX6_readLeg_69 rfl (lv_at hl 0 rfl) ?_
        refine lv_bipush (v := (-9 : Int32)) hx hb dX6_readLeg_70 (by decide) ?_
        refine lv_icmp_ne (tgt := 80) hx hb dX6_readLeg_72 (by decide) (fun c46 => ?_) (fun c46 => ?_)
        · replace hm := ifn c46 hm
          refine lv_aload_n hx hb dX6_readLeg_80 rfl (lv_at hl 2 rfl) ?_
          refine lv_iconst (v := (0 : Int32)) hx hb dX6_readLeg_81 (by decide) ?_
          refine lv_aload_n hx hb dX6_readLeg_82 rfl (lv_at hl 2 rfl) ?_
          refine va_get (D := (dC, dI)) (ci := 6) (v := .int v_readStations) (C := RX6) (T := TX6) (N := 28) hx hb hts hinX6 hown hG.1 hP 0 rfl rfl 5 (by decide) k3 (fun _ h9 => h9) rfl dX6_readLeg_83 ?_
          refine lv_iconst (v := (1 : Int32)) hx hb dX6_readLeg_86 (by decide) ?_
          refine lv_isub hx hb dX6_readLeg_87 ?_
          obtain ⟨r47, w48, e49, hm⟩ := bnd2_some hm
          refine g_calli (w2 := (wd_f87564 k n_t n_text n_readPage n_page n_trial n_book n_kept n_isKept n_seenStation n_seenOther n_seenWide n_seenWas n_sines n_at n_column n_gram n_right n_work v_thrown v_textSize w48 v_stations v_readStations v_doings v_seen v_seed v_wide v_up v_low r_text r_readPage)) (va_runV (As := [.int (0 : Int32), .int (v_readStations - (1 : Int32))]) (rest := []) ⟨hx, hb, hml, hown, hts⟩ (m_X6_figure l dC dI k H.size n_t n_text n_readPage n_page n_trial n_book n_kept n_isKept n_seenStation n_seenOther n_seenWide n_seenWas n_sines n_at n_column n_gram n_right n_work v_thrown v_textSize w44 v_stations v_readStations v_doings v_seen v_seed v_wide v_up v_low r_text (0 : Int32) (v_readStations - (1 : Int32)) e49) (cwV 2 hts gX6_readLeg_X6_figure rfl rfl rfl (by decide +kernel) ⟨Nat.le_of_ble_eq_true rfl, Nat.le_of_ble_eq_true rfl⟩) (g_preV hG hP hD hS hA [0, 1] rfl (by decide) (ci := 6) (q0 := 0) rfl rfl) rfl rfl hl.1 rfl (lv_room (Nat.le_of_ble_eq_true rfl)) dX6_readLeg_88 ⟨Nat.le_of_ble_eq_true rfl, Nat.le_of_ble_eq_true rfl⟩) hP hD hS hA [0, 1] [2] [1, 2, 0] rfl rfl (by decide) (by decide) rfl (by decide) (fun H locs hP hD hS => ?_)
          exact J_91 _ _ _ _ _ _ _ _ (lv_sub hl [2, 1, 0] rfl) hP hD hS hm
        · replace hm := ifp c46 hm
          refine lv_bipush (v := (-9 : Int32)) hx hb dX6_readLeg_75 (by decide) ?_
          refine lv_goto (tgt := 91) hx hb dX6_readLeg_77 (by decide) ?_
          exact J_91 _ _ _ _ _ _ _ _ (lv_sub hl [2, 1, 0] rfl) hP hD hS hm
      · replace hm := ifp c39 hm
        refine lv_iconst (v := (0 : Int32)) hx hb dX6_readLeg_33 (by decide) ?_
        exact RET _ _ _ _ _ _ _ dX6_readLeg_34 hm (by decide +kernel) hP hD hS
set_option maxRecDepth 100000 in
theorem m_X6_readLeg (l : Launch) (dC : Nat → ClassId) (dI : Nat → Nat → Nat) (k : Nat → ClassId) (sz : Nat) (n_t n_text n_readPage n_page n_trial n_book n_kept n_isKept n_seenStation n_seenOther n_seenWide n_seenWas n_sines n_at n_column n_gram n_right n_work : Nat) (v_thrown : Int32) (v_textSize : Int32) (v_place : Int32) (v_stations : Int32) (v_readStations : Int32) (v_doings : Int32) (v_seen : Int32) (v_seed : Int64) (v_wide : Int32) (v_up : Int64) (v_low : Int64) (r_text : Nat → Int32) (r_readPage : Nat → Int32) {o_r : Int32} {o_v_place : (Int32)} {o_r_readPage : (Nat → Int32)} (hm : f_X6_readLeg v_textSize v_place v_readStations r_text r_readPage = some (o_r, o_v_place, o_r_readPage)) : Met l yX6_readLeg wsX6_readLeg rm_X6_readLeg (gPre dC dI k [.ref n_t] sz (wd_f87564 k n_t n_text n_readPage n_page n_trial n_book n_kept n_isKept n_seenStation n_seenOther n_seenWide n_seenWas n_sines n_at n_column n_gram n_right n_work v_thrown v_textSize v_place v_stations v_readStations v_doings v_seen v_seed v_wide v_up v_low r_text r_readPage)) (gQI dC dI (va_A (wd_f87564 k n_t n_text n_readPage n_page n_trial n_book n_kept n_isKept n_seenStation n_seenOther n_seenWide n_seenWas n_sines n_at n_column n_gram n_right n_work v_thrown v_textSize v_place v_stations v_readStations v_doings v_seen v_seed v_wide v_up v_low r_text r_readPage) sz) o_r (wd_f87564 k n_t n_text n_readPage n_page n_trial n_book n_kept n_isKept n_seenStation n_seenOther n_seenWide n_seenWas n_sines n_at n_column n_gram n_right n_work v_thrown v_textSize o_v_place v_stations v_readStations v_doings v_seen v_seed v_wide v_up v_low r_text o_r_readPage)) 0 0 (va_A (wd_f87564 k n_t n_text n_readPage n_page n_trial n_book n_kept n_isKept n_seenStation n_seenOther n_seenWide n_seenWas n_sines n_at n_column n_gram n_right n_work v_thrown v_textSize v_place v_stations v_readStations v_doings v_seen v_seed v_wide v_up v_low r_text r_readPage) sz) := by
  refine g_entry (cc := cX6_readLeg) (maxL := 9) (ret := (some .boolean)) (lv := [(0, .ref n_t)]) (by decide +kernel) rfl (Nat.le_of_ble_eq_true rfl) rfl (fun p e s m below meth c ls hx hb hr hml hts hown hlk hnm hsz hG hA hP hD hS hl => ?_)
  exact k_X6_readLeg hx hb hml hts hown hG hA n_t n_text n_readPage n_page n_trial n_book n_kept n_isKept n_seenStation n_seenOther n_seenWide n_seenWas n_sines n_at n_column n_gram n_right n_work v_thrown v_textSize v_place v_stations v_readStations v_doings v_seen v_seed v_wide v_up v_low r_text r_readPage o_r o_v_place o_r_readPage (fun pc H locs ls v q_v_place q_r_readPage hd ho hz hP hD hS => by cases ho; exact g_iretz hx hb hr hlk hP hD hS hz hd) s.heap [] ls hl hP hD hS hm
end
section
set_option maxHeartbeats 4000000 in
set_option maxRecDepth 100000 in
theorem k_X6_readCave {p : Program} {l : Launch} {e : Env} {s : State} {m : MethodId} {args : Array Value} {below : List Frame} {meth : Method} {c : Code} {A : Nat → Prop} {Q : State → Prop} {dC : Nat → ClassId} {dI : Nat → Nat → Nat} {k : Nat → ClassId} (hx : p.tables.exec = Jvm.exec) (hb : c.code = cX6_readCave) (hml : c.maxLocals = 2) (hts : ∀ w ∈ wsX6_readCave, w.before args s = true) (hown : s.vm.findClass RX6 = some m.cls) (hG : gK dC dI k A s) (hA : ∀ q : Nat, s.heap.size ≤ q → A q) (F : Nat) (n_t n_text n_readPage n_page n_trial n_book n_kept n_isKept n_seenStation n_seenOther n_seenWide n_seenWas n_sines n_at n_column n_gram n_right n_work : Nat) (v_thrown : Int32) (v_textSize : Int32) (v_place : Int32) (v_stations : Int32) (v_readStations : Int32) (v_doings : Int32) (v_seen : Int32) (v_seed : Int64) (v_wide : Int32) (v_up : Int64) (v_low : Int64) (r_text : Nat → Int32) (r_readPage : Nat → Int32) (o_r : Int32) (o_v_place : (Int32)) (o_v_readStations : (Int32)) (o_r_readPage : (Nat → Int32)) (RET : ∀ (pc : Nat) (H : Heap) (locs : List Loc) (ls : Array Slot) (v : Int32) (q_v_place : Int32) (q_v_readStations : Int32) (q_r_readPage : Nat → Int32), decode cX6_readCave pc = .ok (.ireturn, 1) → some (v, q_v_place, q_v_readStations, q_r_readPage) = some (o_r, o_v_place, o_v_readStations, o_r_readPage) → va_P (dC, dI) vwCl (wd_f87564 k n_t n_text n_readPage n_page n_trial n_book n_kept n_isKept n_seenStation n_seenOther n_seenWide n_seenWas n_sines n_at n_column n_gram n_right n_work v_thrown v_textSize q_v_place v_stations q_v_readStations v_doings v_seen v_seed v_wide v_up v_low r_text q_r_readPage) H → va_D A (wd_f87564 k n_t n_text n_readPage n_page n_trial n_book n_kept n_isKept n_seenStation n_seenOther n_seenWide n_seenWas n_sines n_at n_column n_gram n_right n_work v_thrown v_textSize q_v_place v_stations q_v_readStations v_doings v_seen v_seed v_wide v_up v_low r_text q_r_readPage) → va_S A s.heap H locs → W p l e rm_X6_readCave s m args below meth c H locs 0 0 Q (F0 m pc ls [.int v])) (H : Heap) (locs : List Loc) (ls : Array Slot) (hl : lv_has ls 2 [(0, .ref n_t)]) (hP : va_P (dC, dI) vwCl (wd_f87564 k n_t n_text n_readPage n_page n_trial n_book n_kept n_isKept n_seenStation n_seenOther n_seenWide n_seenWas n_sines n_at n_column n_gram n_right n_work v_thrown v_textSize v_place v_stations v_readStations v_doings v_seen v_seed v_wide v_up v_low r_text r_readPage) H) (hD : va_D A (wd_f87564 k n_t n_text n_readPage n_page n_trial n_book n_kept n_isKept n_seenStation n_seenOther n_seenWide n_seenWas n_sines n_at n_column n_gram n_right n_work v_thrown v_textSize v_place v_stations v_readStations v_doings v_seen v_seed v_wide v_up v_low r_text r_readPage)) (hS : va_S A s.heap H locs) (hm : f_X6_readCave F v_textSize v_place v_readStations r_text r_readPage = some (o_r, o_v_place, o_v_readStations, o_r_readPage)) : W p l e rm_X6_readCave s m args below meth c H locs 0 0 Q (F0 m 0 ls []) := by
  have hinX6 : ∀ w ∈ u_ws RX6 TX6 28, w ∈ wsX6_readCave := by decide +kernel
  have k0 := hts (.fieldLink RX6 79 "CaveLegsModel" "place" "I") (by decide +kernel)
  have k1 := hts (.fieldLink RX6 76 "CaveLegsModel" "textSize" "I") (by decide +kernel)
  have k2 := hts (.fieldLink RX6 7 "CaveLegsModel" "text" "[I") (by decide +kernel)
  have k3 := hts (.fieldLink RX6 86 "CaveLegsModel" "readStations" "I") (by decide +kernel)
  have k4 := hts (.fieldLink RX6 17 "CaveLegsModel" "readPage" "[I") (by decide +kernel)
  have L_76 : ∀ (n76 : Nat) (v_place : Int32) (v_readStations : Int32) (r_readPage : Nat → Int32) (H : Heap) (locs : List Loc) (ls : Array Slot), lv_has ls 2 [(0, .ref n_t)] → va_P (dC, dI) vwCl (wd_f87564 k n_t n_text n_readPage n_page n_trial n_book n_kept n_isKept n_seenStation n_seenOther n_seenWide n_seenWas n_sines n_at n_column n_gram n_right n_work v_thrown v_textSize v_place v_stations v_readStations v_doings v_seen v_seed v_wide v_up v_low r_text r_readPage) H → va_D A (wd_f87564 k n_t n_text n_readPage n_page n_trial n_book n_kept n_isKept n_seenStation n_seenOther n_seenWide n_seenWas n_sines n_at n_column n_gram n_right n_work v_thrown v_textSize v_place v_stations v_readStations v_doings v_seen v_seed v_wide v_up v_low r_text r_readPage) → va_S A s.heap H locs → f_X6_readCave_L76 F v_textSize r_text n76 v_place v_readStations r_readPage = some (o_r, o_v_place, o_v_readStations, o_r_readPage) → W p l e rm_X6_readCave s m args below meth c H locs 0 0 Q (F0 m 76 ls []) := by
    intro n76
    induction n76 with
    | zero =>
      intro v_place v_readStations r_readPage H locs ls hl hP hD hS hm
      exact non_some hm
    | succ n76 ih76 =>
      intro v_place v_readStations r_readPage H locs ls hl hP hD hS hm
      replace hm : f_X6_readCave_B76 F v_textSize r_text (f_X6_readCave_L76 F v_textSize r_text n76) v_place v_readStations r_readPage = some (o_r, o_v_place, o_v_readStations, o_r_readPage) := hm
      unfold f_X6_readCave_B76 at hm
      refine lv_aload_n hx hb dX6_readCave_76 rfl (lv_at hl 0 rfl) ?_
      refine va_get (D := (dC, dI)) (ci := 6) (v := .int v_place) (C := RX6) (T := TX6) (N := 28) hx hb hts hinX6 hown hG.1 hP 0 rfl rfl 3 (by decide) k0 (fun _ h9 => h9) rfl dX6_readCave_77 ?_
      refine lv_aload_n hx hb dX6_readCave_80 rfl (lv_at hl 0 rfl) ?_
      refine va_get (D := (dC, dI)) (ci := 6) (v := .int v_textSize) (C := RX6) (T := TX6) (N := 28) hx hb hts hinX6 hown hG.1 hP 0 rfl rfl 2 (by decide) k1 (fun _ h9 => h9) rfl dX6_readCave_81 ?_
      refine lv_icmp_ge (tgt := 99) hx hb dX6_readCave_84 (by decide) (fun c1 => ?_) (fun c1 => ?_)
      · replace hm := ifp c1 hm
        refine lv_bipush (v := (-9 : Int32)) hx hb dX6_readCave_99 (by decide) ?_
        exact RET _ _ _ _ _ _ _ _ dX6_readCave_101 hm hP hD hS
      · replace hm := ifn c1 hm
        refine lv_aload_n hx hb dX6_readCave_87 rfl (lv_at hl 0 rfl) ?_
        obtain ⟨r2, w3, w4, e5, hm⟩ := bnd3_some hm
        refine g_calli (w2 := (wd_f87564 k n_t n_text n_readPage n_page n_trial n_book n_kept n_isKept n_seenStation n_seenOther n_seenWide n_seenWas n_sines n_at n_column n_gram n_right n_work v_thrown v_textSize w3 v_stations v_readStations v_doings v_seen v_seed v_wide v_up v_low r_text w4)) (va_runV (As := []) (rest := []) ⟨hx, hb, hml, hown, hts⟩ (m_X6_readLeg l dC dI k H.size n_t n_text n_readPage n_page n_trial n_book n_kept n_isKept n_seenStation n_seenOther n_seenWide n_seenWas n_sines n_at n_column n_gram n_right n_work v_thrown v_textSize v_place v_stations v_readStations v_doings v_seen v_seed v_wide v_up v_low r_text r_readPage  e5) (cwV 0 hts gX6_readCave_X6_readLeg rfl rfl rfl (by decide +kernel) ⟨Nat.le_of_ble_eq_true rfl, Nat.le_of_ble_eq_true rfl⟩) (g_preV hG hP hD hS hA [0, 1, 2] rfl (by decide) (ci := 6) (q0 := 0) rfl rfl) rfl rfl hl.1 rfl (lv_room (Nat.le_of_ble_eq_true rfl)) dX6_readCave_88 ⟨Nat.le_of_ble_eq_true rfl, Nat.le_of_ble_eq_true rfl⟩) hP hD hS hA [0, 1, 2] [] [0, 1, 2] rfl rfl (by decide) (by decide) rfl (by decide) (fun H locs hP hD hS => ?_)
        refine lv_if_ne (tgt := 76) hx hb dX6_readCave_91 (by decide) (fun c6 => ?_) (fun c6 => ?_)
        · replace hm := ifn c6 hm
          exact ih76 _ _ _ _ _ _ (lv_sub hl [0] rfl) hP hD hS hm
        · replace hm := ifp c6 hm
          refine lv_aload_n hx hb dX6_readCave_94 rfl (lv_at hl 0 rfl) ?_
          refine va_get (D := (dC, dI)) (ci := 6) (v := .int w3) (C := RX6) (T := TX6) (N := 28) hx hb hts hinX6 hown hG.1 hP 0 rfl rfl 3 (by decide) k0 (fun _ h9 => h9) rfl dX6_readCave_95 ?_
          exact RET _ _ _ _ _ _ _ _ dX6_readCave_98 hm hP hD hS
  have L_7 : ∀ (n7 : Nat) (v_place : Int32) (v_readStations : Int32) (r_readPage : Nat → Int32) (x1 : Int32) (H : Heap) (locs : List Loc) (ls : Array Slot), lv_has ls 2 [(0, .ref n_t), (1, .int x1)] → va_P (dC, dI) vwCl (wd_f87564 k n_t n_text n_readPage n_page n_trial n_book n_kept n_isKept n_seenStation n_seenOther n_seenWide n_seenWas n_sines n_at n_column n_gram n_right n_work v_thrown v_textSize v_place v_stations v_readStations v_doings v_seen v_seed v_wide v_up v_low r_text r_readPage) H → va_D A (wd_f87564 k n_t n_text n_readPage n_page n_trial n_book n_kept n_isKept n_seenStation n_seenOther n_seenWide n_seenWas n_sines n_at n_column n_gram n_right n_work v_thrown v_textSize v_place v_stations v_readStations v_doings v_seen v_seed v_wide v_up v_low r_text r_readPage) → va_S A s.heap H locs → f_X6_readCave_L7 F v_textSize r_text n7 v_place v_readStations r_readPage x1 = some (o_r, o_v_place, o_v_readStations, o_r_readPage) → W p l e rm_X6_readCave s m args below meth c H locs 0 0 Q (F0 m 7 ls []) := by
    intro n7
    induction n7 with
    | zero =>
      intro v_place v_readStations r_readPage x1 H locs ls hl hP hD hS hm
      exact non_some hm
    | succ n7 ih7 =>
      intro v_place v_readStations r_readPage x1 H locs ls hl hP hD hS hm
      replace hm : f_X6_readCave_B7 F v_textSize r_text (f_X6_readCave_L7 F v_textSize r_text n7) v_place v_readStations r_readPage x1 = some (o_r, o_v_place, o_v_readStations, o_r_readPage) := hm
      unfold f_X6_readCave_B7 at hm
      refine lv_iload_n hx hb dX6_readCave_7 rfl (lv_at hl 1 rfl) ?_
      refine lv_bipush (v := (50 : Int32)) hx hb dX6_readCave_8 (by decide) ?_
      refine lv_icmp_ge (tgt := 26) hx hb dX6_readCave_10 (by decide) (fun c7 => ?_) (fun c7 => ?_)
      · replace hm := ifp c7 hm
        refine lv_aload_n hx hb dX6_readCave_26 rfl (lv_at hl 0 rfl) ?_
        refine va_get (D := (dC, dI)) (ci := 6) (v := .int v_textSize) (C := RX6) (T := TX6) (N := 28) hx hb hts hinX6 hown hG.1 hP 0 rfl rfl 2 (by decide) k1 (fun _ h9 => h9) rfl dX6_readCave_27 ?_
        refine lv_if_eq (tgt := 44) hx hb dX6_readCave_30 (by decide) (fun c8 => ?_) (fun c8 => ?_)
        · replace hm := ifp c8 hm
          refine lv_iconst (v := (0 : Int32)) hx hb dX6_readCave_44 (by decide) ?_
          exact RET _ _ _ _ _ _ _ _ dX6_readCave_45 hm hP hD hS
        · replace hm := ifn c8 hm
          refine lv_aload_n hx hb dX6_readCave_33 rfl (lv_at hl 0 rfl) ?_
          refine va_get (D := (dC, dI)) (ci := 6) (v := .ref n_text) (C := RX6) (T := TX6) (N := 28) hx hb hts hinX6 hown hG.1 hP 0 rfl rfl 1 (by decide) k2 (fun _ h9 => h9) rfl dX6_readCave_34 ?_
          refine lv_iconst (v := (0 : Int32)) hx hb dX6_readCave_37 (by decide) ?_
          obtain ⟨hi9, hm⟩ := chk_some hm
          refine va_iald hx hb hG.1 hP 1 0 rfl rfl hi9 dX6_readCave_38 ?_
          refine lv_bipush (v := (67 : Int32)) hx hb dX6_readCave_39 (by decide) ?_
          refine lv_icmp_eq (tgt := 46) hx hb dX6_readCave_41 (by decide) (fun c10 => ?_) (fun c10 => ?_)
          · replace hm := ifp c10 hm
            refine lv_aload_n hx hb dX6_readCave_46 rfl (lv_at hl 0 rfl) ?_
            refine lv_iconst (v := (1 : Int32)) hx hb dX6_readCave_47 (by decide) ?_
            refine va_put (D := (dC, dI)) (ci := 6) (v := .int (1 : Int32)) (ty := .int) (C := RX6) (T := TX6) (N := 28) hx hb hts hinX6 tyX6 tyX6_ok nmX6 hown hG.1 hP hD hS 0 rfl rfl 3 (by decide) k0 (fun _ h9 => h9) rfl (by decide +kernel) rfl rfl (Nat.le_of_ble_eq_true rfl) dX6_readCave_48 (fun H locs hP hD hS => ?_)
            replace hP : va_P (dC, dI) vwCl (wd_f87564 k n_t n_text n_readPage n_page n_trial n_book n_kept n_isKept n_seenStation n_seenOther n_seenWide n_seenWas n_sines n_at n_column n_gram n_right n_work v_thrown v_textSize (1 : Int32) v_stations v_readStations v_doings v_seen v_seed v_wide v_up v_low r_text r_readPage) H := hP
            replace hD : va_D A (wd_f87564 k n_t n_text n_readPage n_page n_trial n_book n_kept n_isKept n_seenStation n_seenOther n_seenWide n_seenWas n_sines n_at n_column n_gram n_right n_work v_thrown v_textSize (1 : Int32) v_stations v_readStations v_doings v_seen v_seed v_wide v_up v_low r_text r_readPage) := hD
            refine lv_aload_n hx hb dX6_readCave_51 rfl (lv_at hl 0 rfl) ?_
            refine lv_aload_n hx hb dX6_readCave_52 rfl (lv_at hl 0 rfl) ?_
            refine lv_iconst (v := (1 : Int32)) hx hb dX6_readCave_53 (by decide) ?_
            refine lv_bipush (v := (6 : Int32)) hx hb dX6_readCave_54 (by decide) ?_
            obtain ⟨r11, w12, e13, hm⟩ := bnd2_some hm
            refine g_calli (w2 := (wd_f87564 k n_t n_text n_readPage n_page n_trial n_book n_kept n_isKept n_seenStation n_seenOther n_seenWide n_seenWas n_sines n_at n_column n_gram n_right n_work v_thrown v_textSize w12 v_stations v_readStations v_doings v_seen v_seed v_wide v_up v_low r_text r_readPage)) (va_runV (As := [.int (1 : Int32), .int (6 : Int32)]) (rest := [.ref n_t]) ⟨hx, hb, hml, hown, hts⟩ (m_X6_figure l dC dI k H.size n_t n_text n_readPage n_page n_trial n_book n_kept n_isKept n_seenStation n_seenOther n_seenWide n_seenWas n_sines n_at n_column n_gram n_right n_work v_thrown v_textSize (1 : Int32) v_stations v_readStations v_doings v_seen v_seed v_wide v_up v_low r_text (1 : Int32) (6 : Int32) e13) (cwV 2 hts gX6_readCave_X6_figure rfl rfl rfl (by decide +kernel) ⟨Nat.le_of_ble_eq_true rfl, Nat.le_of_ble_eq_true rfl⟩) (g_preV hG hP hD hS hA [0, 1] rfl (by decide) (ci := 6) (q0 := 0) rfl rfl) rfl rfl hl.1 rfl (lv_room (Nat.le_of_ble_eq_true rfl)) dX6_readCave_56 ⟨Nat.le_of_ble_eq_true rfl, Nat.le_of_ble_eq_true rfl⟩) hP hD hS hA [0, 1] [2] [1, 2, 0] rfl rfl (by decide) (by decide) rfl (by decide) (fun H locs hP hD hS => ?_)
            refine va_put (D := (dC, dI)) (ci := 6) (v := .int r11) (ty := .int) (C := RX6) (T := TX6) (N := 28) hx hb hts hinX6 tyX6 tyX6_ok nmX6 hown hG.1 hP hD hS 0 rfl rfl 5 (by decide) k3 (fun _ h9 => h9) rfl (by decide +kernel) rfl rfl (Nat.le_of_ble_eq_true rfl) dX6_readCave_59 (fun H locs hP hD hS => ?_)
            replace hP : va_P (dC, dI) vwCl (wd_f87564 k n_t n_text n_readPage n_page n_trial n_book n_kept n_isKept n_seenStation n_seenOther n_seenWide n_seenWas n_sines n_at n_column n_gram n_right n_work v_thrown v_textSize w12 v_stations r11 v_doings v_seen v_seed v_wide v_up v_low r_text r_readPage) H := hP
            replace hD : va_D A (wd_f87564 k n_t n_text n_readPage n_page n_trial n_book n_kept n_isKept n_seenStation n_seenOther n_seenWide n_seenWas n_sines n_at n_column n_gram n_right n_work v_thrown v_textSize w12 v_stations r11 v_doings v_seen v_seed v_wide v_up v_low r_text r_readPage) := hD
            refine lv_aload_n hx hb dX6_readCave_62 rfl (lv_at hl 0 rfl) ?_
            refine va_get (D := (dC, dI)) (ci := 6) (v := .int r11) (C := RX6) (T := TX6) (N := 28) hx hb hts hinX6 hown hG.1 hP 0 rfl rfl 5 (by decide) k3 (fun _ h9 => h9) rfl dX6_readCave_63 ?_
            refine lv_bipush (v := (-9 : Int32)) hx hb dX6_readCave_66 (by decide) ?_
            refine lv_icmp_ne (tgt := 76) hx hb dX6_readCave_68 (by decide) (fun c14 => ?_) (fun c14 => ?_)
            · replace hm := ifn c14 hm
              exact L_76 F _ _ _ _ _ _ (lv_sub hl [0] rfl) hP hD hS hm
            · replace hm := ifp c14 hm
              refine lv_aload_n hx hb dX6_readCave_71 rfl (lv_at hl 0 rfl) ?_
              refine va_get (D := (dC, dI)) (ci := 6) (v := .int w12) (C := RX6) (T := TX6) (N := 28) hx hb hts hinX6 hown hG.1 hP 0 rfl rfl 3 (by decide) k0 (fun _ h9 => h9) rfl dX6_readCave_72 ?_
              exact RET _ _ _ _ _ _ _ _ dX6_readCave_75 hm hP hD hS
          · replace hm := ifn c10 hm
            refine lv_iconst (v := (0 : Int32)) hx hb dX6_readCave_44 (by decide) ?_
            exact RET _ _ _ _ _ _ _ _ dX6_readCave_45 hm hP hD hS
      · replace hm := ifn c7 hm
        refine lv_aload_n hx hb dX6_readCave_13 rfl (lv_at hl 0 rfl) ?_
        refine va_get (D := (dC, dI)) (ci := 6) (v := .ref n_readPage) (C := RX6) (T := TX6) (N := 28) hx hb hts hinX6 hown hG.1 hP 0 rfl rfl 6 (by decide) k4 (fun _ h9 => h9) rfl dX6_readCave_14 ?_
        refine lv_iload_n hx hb dX6_readCave_17 rfl (lv_at hl 1 rfl) ?_
        refine lv_iconst (v := (0 : Int32)) hx hb dX6_readCave_18 (by decide) ?_
        obtain ⟨hi15, hm⟩ := chk_some hm
        refine va_iast hx hb hG.1 hP hD hS 2 0 rfl rfl hi15 dX6_readCave_19 (fun H locs hP hD hS => ?_)
        replace hP : va_P (dC, dI) vwCl (wd_f87564 k n_t n_text n_readPage n_page n_trial n_book n_kept n_isKept n_seenStation n_seenOther n_seenWide n_seenWas n_sines n_at n_column n_gram n_right n_work v_thrown v_textSize v_place v_stations v_readStations v_doings v_seen v_seed v_wide v_up v_low r_text (upd r_readPage (Int32.toNatClampNeg x1) (0 : Int32))) H := hP
        replace hD : va_D A (wd_f87564 k n_t n_text n_readPage n_page n_trial n_book n_kept n_isKept n_seenStation n_seenOther n_seenWide n_seenWas n_sines n_at n_column n_gram n_right n_work v_thrown v_textSize v_place v_stations v_readStations v_doings v_seen v_seed v_wide v_up v_low r_text (upd r_readPage (Int32.toNatClampNeg x1) (0 : Int32))) := hD
        obtain ⟨t16, et16⟩ : ∃ y : Int32, y = x1 + (1 : Int32) := ⟨_, rfl⟩
        replace hm := (nmd_eq et16).trans hm
        refine lv_iinc (v := t16) (lv' := [(1, .int t16), (0, .ref n_t)]) hx hb dX6_readCave_20 hl (k := 1) rfl (by rw [et16]; rfl) (by decide) rfl (fun ls hl => ?_)
        refine lv_goto (tgt := 7) hx hb dX6_readCave_23 (by decide) ?_
        exact ih7 _ _ _ _ _ _ _ (lv_sub hl [1, 0] rfl) hP hD hS hm
  unfold f_X6_readCave at hm
  refine lv_aload_n hx hb dX6_readCave_0 rfl (lv_at hl 0 rfl) ?_
  refine lv_iconst (v := (0 : Int32)) hx hb dX6_readCave_1 (by decide) ?_
  refine va_put (D := (dC, dI)) (ci := 6) (v := .int (0 : Int32)) (ty := .int) (C := RX6) (T := TX6) (N := 28) hx hb hts hinX6 tyX6 tyX6_ok nmX6 hown hG.1 hP hD hS 0 rfl rfl 3 (by decide) k0 (fun _ h9 => h9) rfl (by decide +kernel) rfl rfl (Nat.le_of_ble_eq_true rfl) dX6_readCave_2 (fun H locs hP hD hS => ?_)
  replace hP : va_P (dC, dI) vwCl (wd_f87564 k n_t n_text n_readPage n_page n_trial n_book n_kept n_isKept n_seenStation n_seenOther n_seenWide n_seenWas n_sines n_at n_column n_gram n_right n_work v_thrown v_textSize (0 : Int32) v_stations v_readStations v_doings v_seen v_seed v_wide v_up v_low r_text r_readPage) H := hP
  replace hD : va_D A (wd_f87564 k n_t n_text n_readPage n_page n_trial n_book n_kept n_isKept n_seenStation n_seenOther n_seenWide n_seenWas n_sines n_at n_column n_gram n_right n_work v_thrown v_textSize (0 : Int32) v_stations v_readStations v_doings v_seen v_seed v_wide v_up v_low r_text r_readPage) := hD
  refine lv_iconst (v := (0 : Int32)) hx hb dX6_readCave_5 (by decide) ?_
  refine lv_istore_n (lv' := [(1, .int (0 : Int32)), (0, .ref n_t)]) hx hb dX6_readCave_6 rfl hl (by decide) rfl (fun ls hl => ?_)
  exact L_7 F _ _ _ _ _ _ _ (lv_sub hl [1, 0] rfl) hP hD hS hm
set_option maxRecDepth 100000 in
theorem m_X6_readCave (l : Launch) (dC : Nat → ClassId) (dI : Nat → Nat → Nat) (k : Nat → ClassId) (F : Nat) (sz : Nat) (n_t n_text n_readPage n_page n_trial n_book n_kept n_isKept n_seenStation n_seenOther n_seenWide n_seenWas n_sines n_at n_column n_gram n_right n_work : Nat) (v_thrown : Int32) (v_textSize : Int32) (v_place : Int32) (v_stations : Int32) (v_readStations : Int32) (v_doings : Int32) (v_seen : Int32) (v_seed : Int64) (v_wide : Int32) (v_up : Int64) (v_low : Int64) (r_text : Nat → Int32) (r_readPage : Nat → Int32) {o_r : Int32} {o_v_place : (Int32)} {o_v_readStations : (Int32)} {o_r_readPage : (Nat → Int32)} (hm : f_X6_readCave F v_textSize v_place v_readStations r_text r_readPage = some (o_r, o_v_place, o_v_readStations, o_r_readPage)) : Met l yX6_readCave wsX6_readCave rm_X6_readCave (gPre dC dI k [.ref n_t] sz (wd_f87564 k n_t n_text n_readPage n_page n_trial n_book n_kept n_isKept n_seenStation n_seenOther n_seenWide n_seenWas n_sines n_at n_column n_gram n_right n_work v_thrown v_textSize v_place v_stations v_readStations v_doings v_seen v_seed v_wide v_up v_low r_text r_readPage)) (gQI dC dI (va_A (wd_f87564 k n_t n_text n_readPage n_page n_trial n_book n_kept n_isKept n_seenStation n_seenOther n_seenWide n_seenWas n_sines n_at n_column n_gram n_right n_work v_thrown v_textSize v_place v_stations v_readStations v_doings v_seen v_seed v_wide v_up v_low r_text r_readPage) sz) o_r (wd_f87564 k n_t n_text n_readPage n_page n_trial n_book n_kept n_isKept n_seenStation n_seenOther n_seenWide n_seenWas n_sines n_at n_column n_gram n_right n_work v_thrown v_textSize o_v_place v_stations o_v_readStations v_doings v_seen v_seed v_wide v_up v_low r_text o_r_readPage)) 0 0 (va_A (wd_f87564 k n_t n_text n_readPage n_page n_trial n_book n_kept n_isKept n_seenStation n_seenOther n_seenWide n_seenWas n_sines n_at n_column n_gram n_right n_work v_thrown v_textSize v_place v_stations v_readStations v_doings v_seen v_seed v_wide v_up v_low r_text r_readPage) sz) := by
  refine g_entry (cc := cX6_readCave) (maxL := 2) (ret := (some .int)) (lv := [(0, .ref n_t)]) (by decide +kernel) rfl (Nat.le_of_ble_eq_true rfl) rfl (fun p e s m below meth c ls hx hb hr hml hts hown hlk hnm hsz hG hA hP hD hS hl => ?_)
  exact k_X6_readCave hx hb hml hts hown hG hA F n_t n_text n_readPage n_page n_trial n_book n_kept n_isKept n_seenStation n_seenOther n_seenWide n_seenWas n_sines n_at n_column n_gram n_right n_work v_thrown v_textSize v_place v_stations v_readStations v_doings v_seen v_seed v_wide v_up v_low r_text r_readPage o_r o_v_place o_v_readStations o_r_readPage (fun pc H locs ls v q_v_place q_v_readStations q_r_readPage hd ho hP hD hS => by cases ho; exact g_ireti hx hb hr hlk hP hD hS hd) s.heap [] ls hl hP hD hS hm
end
section
set_option maxHeartbeats 4000000 in
set_option maxRecDepth 100000 in
theorem k_X6_fault {p : Program} {l : Launch} {e : Env} {s : State} {m : MethodId} {args : Array Value} {below : List Frame} {meth : Method} {c : Code} {A : Nat → Prop} {Q : State → Prop} {dC : Nat → ClassId} {dI : Nat → Nat → Nat} {k : Nat → ClassId} (hx : p.tables.exec = Jvm.exec) (hb : c.code = cX6_fault) (hml : c.maxLocals = 1) (hts : ∀ w ∈ wsX6_fault, w.before args s = true) (hown : s.vm.findClass RX6 = some m.cls) (hG : gK dC dI k A s) (hA : ∀ q : Nat, s.heap.size ≤ q → A q) (F : Nat) (n_t n_text n_readPage n_page n_trial n_book n_kept n_isKept n_seenStation n_seenOther n_seenWide n_seenWas n_sines n_at n_column n_gram n_right n_work : Nat) (v_thrown : Int32) (v_textSize : Int32) (v_place : Int32) (v_stations : Int32) (v_readStations : Int32) (v_doings : Int32) (v_seen : Int32) (v_seed : Int64) (v_wide : Int32) (v_up : Int64) (v_low : Int64) (r_text : Nat → Int32) (r_readPage : Nat → Int32) (o_r : Int32) (o_v_thrown : (Int32)) (o_v_place : (Int32)) (o_v_readStations : (Int32)) (o_r_readPage : (Nat → Int32)) (RET : ∀ (pc : Nat) (H : Heap) (locs : List Loc) (ls : Array Slot) (v : Int32) (q_v_thrown : Int32) (q_v_place : Int32) (q_v_readStations : Int32) (q_r_readPage : Nat → Int32), decode cX6_fault pc = .ok (.ireturn, 1) → some (v, q_v_thrown, q_v_place, q_v_readStations, q_r_readPage) = some (o_r, o_v_thrown, o_v_place, o_v_readStations, o_r_readPage) → va_P (dC, dI) vwCl (wd_f87564 k n_t n_text n_readPage n_page n_trial n_book n_kept n_isKept n_seenStation n_seenOther n_seenWide n_seenWas n_sines n_at n_column n_gram n_right n_work q_v_thrown v_textSize q_v_place v_stations q_v_readStations v_doings v_seen v_seed v_wide v_up v_low r_text q_r_readPage) H → va_D A (wd_f87564 k n_t n_text n_readPage n_page n_trial n_book n_kept n_isKept n_seenStation n_seenOther n_seenWide n_seenWas n_sines n_at n_column n_gram n_right n_work q_v_thrown v_textSize q_v_place v_stations q_v_readStations v_doings v_seen v_seed v_wide v_up v_low r_text q_r_readPage) → va_S A s.heap H locs → W p l e rm_X6_fault s m args below meth c H locs 0 0 Q (F0 m pc ls [.int v])) (H : Heap) (locs : List Loc) (ls : Array Slot) (hl : lv_has ls 1 [(0, .ref n_t)]) (hP : va_P (dC, dI) vwCl (wd_f87564 k n_t n_text n_readPage n_page n_trial n_book n_kept n_isKept n_seenStation n_seenOther n_seenWide n_seenWas n_sines n_at n_column n_gram n_right n_work v_thrown v_textSize v_place v_stations v_readStations v_doings v_seen v_seed v_wide v_up v_low r_text r_readPage) H) (hD : va_D A (wd_f87564 k n_t n_text n_readPage n_page n_trial n_book n_kept n_isKept n_seenStation n_seenOther n_seenWide n_seenWas n_sines n_at n_column n_gram n_right n_work v_thrown v_textSize v_place v_stations v_readStations v_doings v_seen v_seed v_wide v_up v_low r_text r_readPage)) (hS : va_S A s.heap H locs) (hm : f_X6_fault F v_thrown v_textSize v_place v_readStations r_text r_readPage = some (o_r, o_v_thrown, o_v_place, o_v_readStations, o_r_readPage)) : W p l e rm_X6_fault s m args below meth c H locs 0 0 Q (F0 m 0 ls []) := by
  have hinX6 : ∀ w ∈ u_ws RX6 TX6 28, w ∈ wsX6_fault := by decide +kernel
  have k0 := hts (.fieldLink RX6 67 "CaveLegsModel" "thrown" "I") (by decide +kernel)
  unfold f_X6_fault at hm
  refine lv_aload_n hx hb dX6_fault_0 rfl (lv_at hl 0 rfl) ?_
  refine lv_iconst (v := (0 : Int32)) hx hb dX6_fault_1 (by decide) ?_
  refine va_put (D := (dC, dI)) (ci := 6) (v := .int (0 : Int32)) (ty := .int) (C := RX6) (T := TX6) (N := 28) hx hb hts hinX6 tyX6 tyX6_ok nmX6 hown hG.1 hP hD hS 0 rfl rfl 0 (by decide) k0 (fun _ h9 => h9) rfl (by decide +kernel) rfl rfl (Nat.le_of_ble_eq_true rfl) dX6_fault_2 (fun H locs hP hD hS => ?_)
  replace hP : va_P (dC, dI) vwCl (wd_f87564 k n_t n_text n_readPage n_page n_trial n_book n_kept n_isKept n_seenStation n_seenOther n_seenWide n_seenWas n_sines n_at n_column n_gram n_right n_work (0 : Int32) v_textSize v_place v_stations v_readStations v_doings v_seen v_seed v_wide v_up v_low r_text r_readPage) H := hP
  replace hD : va_D A (wd_f87564 k n_t n_text n_readPage n_page n_trial n_book n_kept n_isKept n_seenStation n_seenOther n_seenWide n_seenWas n_sines n_at n_column n_gram n_right n_work (0 : Int32) v_textSize v_place v_stations v_readStations v_doings v_seen v_seed v_wide v_up v_low r_text r_readPage) := hD
  refine lv_aload_n hx hb dX6_fault_5 rfl (lv_at hl 0 rfl) ?_
  obtain ⟨r1, w2, w3, w4, e5, hm⟩ := bnd4_some hm
  refine g_calli (w2 := (wd_f87564 k n_t n_text n_readPage n_page n_trial n_book n_kept n_isKept n_seenStation n_seenOther n_seenWide n_seenWas n_sines n_at n_column n_gram n_right n_work (0 : Int32) v_textSize w2 v_stations w3 v_doings v_seen v_seed v_wide v_up v_low r_text w4)) (va_runV (As := []) (rest := []) ⟨hx, hb, hml, hown, hts⟩ (m_X6_readCave l dC dI k F H.size n_t n_text n_readPage n_page n_trial n_book n_kept n_isKept n_seenStation n_seenOther n_seenWide n_seenWas n_sines n_at n_column n_gram n_right n_work (0 : Int32) v_textSize v_place v_stations v_readStations v_doings v_seen v_seed v_wide v_up v_low r_text r_readPage  e5) (cwV 0 hts gX6_fault_X6_readCave rfl rfl rfl (by decide +kernel) ⟨Nat.le_of_ble_eq_true rfl, Nat.le_of_ble_eq_true rfl⟩) (g_preV hG hP hD hS hA [0, 1, 2] rfl (by decide) (ci := 6) (q0 := 0) rfl rfl) rfl rfl hl.1 rfl (lv_room (Nat.le_of_ble_eq_true rfl)) dX6_fault_6 ⟨Nat.le_of_ble_eq_true rfl, Nat.le_of_ble_eq_true rfl⟩) hP hD hS hA [0, 1, 2] [] [0, 1, 2] rfl rfl (by decide) (by decide) rfl (by decide) (fun H locs hP hD hS => ?_)
  exact RET _ _ _ _ _ _ _ _ _ dX6_fault_9 hm hP hD hS
set_option maxRecDepth 100000 in
theorem m_X6_fault (l : Launch) (dC : Nat → ClassId) (dI : Nat → Nat → Nat) (k : Nat → ClassId) (F : Nat) (sz : Nat) (n_t n_text n_readPage n_page n_trial n_book n_kept n_isKept n_seenStation n_seenOther n_seenWide n_seenWas n_sines n_at n_column n_gram n_right n_work : Nat) (v_thrown : Int32) (v_textSize : Int32) (v_place : Int32) (v_stations : Int32) (v_readStations : Int32) (v_doings : Int32) (v_seen : Int32) (v_seed : Int64) (v_wide : Int32) (v_up : Int64) (v_low : Int64) (r_text : Nat → Int32) (r_readPage : Nat → Int32) {o_r : Int32} {o_v_thrown : (Int32)} {o_v_place : (Int32)} {o_v_readStations : (Int32)} {o_r_readPage : (Nat → Int32)} (hm : f_X6_fault F v_thrown v_textSize v_place v_readStations r_text r_readPage = some (o_r, o_v_thrown, o_v_place, o_v_readStations, o_r_readPage)) : Met l yX6_fault wsX6_fault rm_X6_fault (gPre dC dI k [.ref n_t] sz (wd_f87564 k n_t n_text n_readPage n_page n_trial n_book n_kept n_isKept n_seenStation n_seenOther n_seenWide n_seenWas n_sines n_at n_column n_gram n_right n_work v_thrown v_textSize v_place v_stations v_readStations v_doings v_seen v_seed v_wide v_up v_low r_text r_readPage)) (gQI dC dI (va_A (wd_f87564 k n_t n_text n_readPage n_page n_trial n_book n_kept n_isKept n_seenStation n_seenOther n_seenWide n_seenWas n_sines n_at n_column n_gram n_right n_work v_thrown v_textSize v_place v_stations v_readStations v_doings v_seen v_seed v_wide v_up v_low r_text r_readPage) sz) o_r (wd_f87564 k n_t n_text n_readPage n_page n_trial n_book n_kept n_isKept n_seenStation n_seenOther n_seenWide n_seenWas n_sines n_at n_column n_gram n_right n_work o_v_thrown v_textSize o_v_place v_stations o_v_readStations v_doings v_seen v_seed v_wide v_up v_low r_text o_r_readPage)) 0 0 (va_A (wd_f87564 k n_t n_text n_readPage n_page n_trial n_book n_kept n_isKept n_seenStation n_seenOther n_seenWide n_seenWas n_sines n_at n_column n_gram n_right n_work v_thrown v_textSize v_place v_stations v_readStations v_doings v_seen v_seed v_wide v_up v_low r_text r_readPage) sz) := by
  refine g_entry (cc := cX6_fault) (maxL := 1) (ret := (some .int)) (lv := [(0, .ref n_t)]) (by decide +kernel) rfl (Nat.le_of_ble_eq_true rfl) rfl (fun p e s m below meth c ls hx hb hr hml hts hown hlk hnm hsz hG hA hP hD hS hl => ?_)
  exact k_X6_fault hx hb hml hts hown hG hA F n_t n_text n_readPage n_page n_trial n_book n_kept n_isKept n_seenStation n_seenOther n_seenWide n_seenWas n_sines n_at n_column n_gram n_right n_work v_thrown v_textSize v_place v_stations v_readStations v_doings v_seen v_seed v_wide v_up v_low r_text r_readPage o_r o_v_thrown o_v_place o_v_readStations o_r_readPage (fun pc H locs ls v q_v_thrown q_v_place q_v_readStations q_r_readPage hd ho hP hD hS => by cases ho; exact g_ireti hx hb hr hlk hP hD hS hd) s.heap [] ls hl hP hD hS hm
end
section
set_option maxHeartbeats 4000000 in
set_option maxRecDepth 100000 in
theorem k_X6_cave {p : Program} {l : Launch} {e : Env} {s : State} {m : MethodId} {args : Array Value} {below : List Frame} {meth : Method} {c : Code} {A : Nat → Prop} {Q : State → Prop} {dC : Nat → ClassId} {dI : Nat → Nat → Nat} {k : Nat → ClassId} (hx : p.tables.exec = Jvm.exec) (hb : c.code = cX6_cave) (hml : c.maxLocals = 2) (hts : ∀ w ∈ wsX6_cave, w.before args s = true) (hown : s.vm.findClass RX6 = some m.cls) (hG : gK dC dI k A s) (hA : ∀ q : Nat, s.heap.size ≤ q → A q) (F : Nat) (n_t n_text n_readPage n_page n_trial n_book n_kept n_isKept n_seenStation n_seenOther n_seenWide n_seenWas n_sines n_at n_column n_gram n_right n_work : Nat) (v_thrown : Int32) (v_textSize : Int32) (v_place : Int32) (v_stations : Int32) (v_readStations : Int32) (v_doings : Int32) (v_seen : Int32) (v_seed : Int64) (v_wide : Int32) (v_up : Int64) (v_low : Int64) (r_text : Nat → Int32) (r_readPage : Nat → Int32) (r_page : Nat → Int32) (r_isKept : Nat → Int32) (o_r : Int32) (o_v_thrown : (Int32)) (o_v_place : (Int32)) (o_v_stations : (Int32)) (o_v_readStations : (Int32)) (o_v_doings : (Int32)) (o_r_readPage : (Nat → Int32)) (o_r_page : (Nat → Int32)) (o_r_isKept : (Nat → Int32)) (RET : ∀ (pc : Nat) (H : Heap) (locs : List Loc) (ls : Array Slot) (v : Int32) (q_v_thrown : Int32) (q_v_place : Int32) (q_v_stations : Int32) (q_v_readStations : Int32) (q_v_doings : Int32) (q_r_readPage : Nat → Int32) (q_r_page : Nat → Int32) (q_r_isKept : Nat → Int32), decode cX6_cave pc = .ok (.ireturn, 1) → some (v, q_v_thrown, q_v_place, q_v_stations, q_v_readStations, q_v_doings, q_r_readPage, q_r_page, q_r_isKept) = some (o_r, o_v_thrown, o_v_place, o_v_stations, o_v_readStations, o_v_doings, o_r_readPage, o_r_page, o_r_isKept) → va_P (dC, dI) vwCl (wd_0ec463 k n_t n_text n_readPage n_page n_trial n_book n_kept n_isKept n_seenStation n_seenOther n_seenWide n_seenWas n_sines n_at n_column n_gram n_right n_work q_v_thrown v_textSize q_v_place q_v_stations q_v_readStations q_v_doings v_seen v_seed v_wide v_up v_low r_text q_r_readPage q_r_page q_r_isKept) H → va_D A (wd_0ec463 k n_t n_text n_readPage n_page n_trial n_book n_kept n_isKept n_seenStation n_seenOther n_seenWide n_seenWas n_sines n_at n_column n_gram n_right n_work q_v_thrown v_textSize q_v_place q_v_stations q_v_readStations q_v_doings v_seen v_seed v_wide v_up v_low r_text q_r_readPage q_r_page q_r_isKept) → va_S A s.heap H locs → W p l e rm_X6_cave s m args below meth c H locs 0 0 Q (F0 m pc ls [.int v])) (H : Heap) (locs : List Loc) (ls : Array Slot) (hl : lv_has ls 2 [(0, .ref n_t)]) (hP : va_P (dC, dI) vwCl (wd_0ec463 k n_t n_text n_readPage n_page n_trial n_book n_kept n_isKept n_seenStation n_seenOther n_seenWide n_seenWas n_sines n_at n_column n_gram n_right n_work v_thrown v_textSize v_place v_stations v_readStations v_doings v_seen v_seed v_wide v_up v_low r_text r_readPage r_page r_isKept) H) (hD : va_D A (wd_0ec463 k n_t n_text n_readPage n_page n_trial n_book n_kept n_isKept n_seenStation n_seenOther n_seenWide n_seenWas n_sines n_at n_column n_gram n_right n_work v_thrown v_textSize v_place v_stations v_readStations v_doings v_seen v_seed v_wide v_up v_low r_text r_readPage r_page r_isKept)) (hS : va_S A s.heap H locs) (hm : f_X6_cave F v_thrown v_textSize v_place v_stations v_readStations v_doings r_text r_readPage r_page r_isKept = some (o_r, o_v_thrown, o_v_place, o_v_stations, o_v_readStations, o_v_doings, o_r_readPage, o_r_page, o_r_isKept)) : W p l e rm_X6_cave s m args below meth c H locs 0 0 Q (F0 m 0 ls []) := by
  have hinX6 : ∀ w ∈ u_ws RX6 TX6 28, w ∈ wsX6_cave := by decide +kernel
  have k0 := hts (.fieldLink RX6 100 "CaveLegsModel" "doings" "I") (by decide +kernel)
  have k1 := hts (.fieldLink RX6 32 "CaveLegsModel" "isKept" "[Z") (by decide +kernel)
  have k2 := hts (.fieldLink RX6 20 "CaveLegsModel" "page" "[I") (by decide +kernel)
  have k3 := hts (.fieldLink RX6 17 "CaveLegsModel" "readPage" "[I") (by decide +kernel)
  have k4 := hts (.fieldLink RX6 67 "CaveLegsModel" "thrown" "I") (by decide +kernel)
  have k5 := hts (.fieldLink RX6 86 "CaveLegsModel" "readStations" "I") (by decide +kernel)
  have k6 := hts (.fieldLink RX6 13 "CaveLegsModel" "stations" "I") (by decide +kernel)
  have L_27 : ∀ (n27 : Nat) (v_thrown : Int32) (v_place : Int32) (v_stations : Int32) (v_readStations : Int32) (v_doings : Int32) (r_readPage : Nat → Int32) (r_page : Nat → Int32) (r_isKept : Nat → Int32) (x1 : Int32) (H : Heap) (locs : List Loc) (ls : Array Slot), lv_has ls 2 [(0, .ref n_t), (1, .int x1)] → va_P (dC, dI) vwCl (wd_0ec463 k n_t n_text n_readPage n_page n_trial n_book n_kept n_isKept n_seenStation n_seenOther n_seenWide n_seenWas n_sines n_at n_column n_gram n_right n_work v_thrown v_textSize v_place v_stations v_readStations v_doings v_seen v_seed v_wide v_up v_low r_text r_readPage r_page r_isKept) H → va_D A (wd_0ec463 k n_t n_text n_readPage n_page n_trial n_book n_kept n_isKept n_seenStation n_seenOther n_seenWide n_seenWas n_sines n_at n_column n_gram n_right n_work v_thrown v_textSize v_place v_stations v_readStations v_doings v_seen v_seed v_wide v_up v_low r_text r_readPage r_page r_isKept) → va_S A s.heap H locs → f_X6_cave_L27 F v_textSize r_text n27 v_thrown v_place v_stations v_readStations v_doings r_readPage r_page r_isKept x1 = some (o_r, o_v_thrown, o_v_place, o_v_stations, o_v_readStations, o_v_doings, o_r_readPage, o_r_page, o_r_isKept) → W p l e rm_X6_cave s m args below meth c H locs 0 0 Q (F0 m 27 ls []) := by
    intro n27
    induction n27 with
    | zero =>
      intro v_thrown v_place v_stations v_readStations v_doings r_readPage r_page r_isKept x1 H locs ls hl hP hD hS hm
      exact non_some hm
    | succ n27 ih27 =>
      intro v_thrown v_place v_stations v_readStations v_doings r_readPage r_page r_isKept x1 H locs ls hl hP hD hS hm
      replace hm : f_X6_cave_B27 F v_textSize r_text (f_X6_cave_L27 F v_textSize r_text n27) v_thrown v_place v_stations v_readStations v_doings r_readPage r_page r_isKept x1 = some (o_r, o_v_thrown, o_v_place, o_v_stations, o_v_readStations, o_v_doings, o_r_readPage, o_r_page, o_r_isKept) := hm
      unfold f_X6_cave_B27 at hm
      refine lv_iload_n hx hb dX6_cave_27 rfl (lv_at hl 1 rfl) ?_
      refine lv_bipush (v := (50 : Int32)) hx hb dX6_cave_28 (by decide) ?_
      refine lv_icmp_ge (tgt := 51) hx hb dX6_cave_30 (by decide) (fun c1 => ?_) (fun c1 => ?_)
      · replace hm := ifp c1 hm
        refine lv_aload_n hx hb dX6_cave_51 rfl (lv_at hl 0 rfl) ?_
        refine lv_iconst (v := (0 : Int32)) hx hb dX6_cave_52 (by decide) ?_
        refine va_put (D := (dC, dI)) (ci := 6) (v := .int (0 : Int32)) (ty := .int) (C := RX6) (T := TX6) (N := 28) hx hb hts hinX6 tyX6 tyX6_ok nmX6 hown hG.1 hP hD hS 0 rfl rfl 10 (by decide) k0 (fun _ h9 => h9) rfl (by decide +kernel) rfl rfl (Nat.le_of_ble_eq_true rfl) dX6_cave_53 (fun H locs hP hD hS => ?_)
        replace hP : va_P (dC, dI) vwCl (wd_0ec463 k n_t n_text n_readPage n_page n_trial n_book n_kept n_isKept n_seenStation n_seenOther n_seenWide n_seenWas n_sines n_at n_column n_gram n_right n_work v_thrown v_textSize v_place v_stations v_readStations (0 : Int32) v_seen v_seed v_wide v_up v_low r_text r_readPage r_page r_isKept) H := hP
        replace hD : va_D A (wd_0ec463 k n_t n_text n_readPage n_page n_trial n_book n_kept n_isKept n_seenStation n_seenOther n_seenWide n_seenWas n_sines n_at n_column n_gram n_right n_work v_thrown v_textSize v_place v_stations v_readStations (0 : Int32) v_seen v_seed v_wide v_up v_low r_text r_readPage r_page r_isKept) := hD
        refine lv_aload_n hx hb dX6_cave_56 rfl (lv_at hl 0 rfl) ?_
        refine va_get (D := (dC, dI)) (ci := 6) (v := .ref n_isKept) (C := RX6) (T := TX6) (N := 28) hx hb hts hinX6 hown hG.1 hP 0 rfl rfl 12 (by decide) k1 (fun _ h9 => h9) rfl dX6_cave_57 ?_
        refine lv_iconst (v := (0 : Int32)) hx hb dX6_cave_60 (by decide) ?_
        refine lv_iconst (v := (0 : Int32)) hx hb dX6_cave_61 (by decide) ?_
        obtain ⟨hi2, hm⟩ := chk_some hm
        refine va_zast hx hb hG.1 hP hD hS 4 3 rfl rfl hi2 dX6_cave_62 (fun H locs hP hD hS => ?_)
        replace hP : va_P (dC, dI) vwCl (wd_0ec463 k n_t n_text n_readPage n_page n_trial n_book n_kept n_isKept n_seenStation n_seenOther n_seenWide n_seenWas n_sines n_at n_column n_gram n_right n_work v_thrown v_textSize v_place v_stations v_readStations (0 : Int32) v_seen v_seed v_wide v_up v_low r_text r_readPage r_page (upd r_isKept (Int32.toNatClampNeg (0 : Int32)) (vp_nar .boolean (0 : Int32)))) H := hP
        replace hD : va_D A (wd_0ec463 k n_t n_text n_readPage n_page n_trial n_book n_kept n_isKept n_seenStation n_seenOther n_seenWide n_seenWas n_sines n_at n_column n_gram n_right n_work v_thrown v_textSize v_place v_stations v_readStations (0 : Int32) v_seen v_seed v_wide v_up v_low r_text r_readPage r_page (upd r_isKept (Int32.toNatClampNeg (0 : Int32)) (vp_nar .boolean (0 : Int32)))) := hD
        refine lv_aload_n hx hb dX6_cave_63 rfl (lv_at hl 0 rfl) ?_
        refine va_get (D := (dC, dI)) (ci := 6) (v := .ref n_isKept) (C := RX6) (T := TX6) (N := 28) hx hb hts hinX6 hown hG.1 hP 0 rfl rfl 12 (by decide) k1 (fun _ h9 => h9) rfl dX6_cave_64 ?_
        refine lv_iconst (v := (1 : Int32)) hx hb dX6_cave_67 (by decide) ?_
        refine lv_iconst (v := (0 : Int32)) hx hb dX6_cave_68 (by decide) ?_
        obtain ⟨hi3, hm⟩ := chk_some hm
        refine va_zast hx hb hG.1 hP hD hS 4 3 rfl rfl hi3 dX6_cave_69 (fun H locs hP hD hS => ?_)
        replace hP : va_P (dC, dI) vwCl (wd_0ec463 k n_t n_text n_readPage n_page n_trial n_book n_kept n_isKept n_seenStation n_seenOther n_seenWide n_seenWas n_sines n_at n_column n_gram n_right n_work v_thrown v_textSize v_place v_stations v_readStations (0 : Int32) v_seen v_seed v_wide v_up v_low r_text r_readPage r_page (upd (upd r_isKept (Int32.toNatClampNeg (0 : Int32)) (vp_nar .boolean (0 : Int32))) (Int32.toNatClampNeg (1 : Int32)) (vp_nar .boolean (0 : Int32)))) H := hP
        replace hD : va_D A (wd_0ec463 k n_t n_text n_readPage n_page n_trial n_book n_kept n_isKept n_seenStation n_seenOther n_seenWide n_seenWas n_sines n_at n_column n_gram n_right n_work v_thrown v_textSize v_place v_stations v_readStations (0 : Int32) v_seen v_seed v_wide v_up v_low r_text r_readPage r_page (upd (upd r_isKept (Int32.toNatClampNeg (0 : Int32)) (vp_nar .boolean (0 : Int32))) (Int32.toNatClampNeg (1 : Int32)) (vp_nar .boolean (0 : Int32)))) := hD
        refine lv_aload_n hx hb dX6_cave_70 rfl (lv_at hl 0 rfl) ?_
        refine va_get (D := (dC, dI)) (ci := 6) (v := .ref n_page) (C := RX6) (T := TX6) (N := 28) hx hb hts hinX6 hown hG.1 hP 0 rfl rfl 7 (by decide) k2 (fun _ h9 => h9) rfl dX6_cave_71 ?_
        refine lv_iconst (v := (0 : Int32)) hx hb dX6_cave_74 (by decide) ?_
        obtain ⟨hi4, hm⟩ := chk_some hm
        refine va_iald hx hb hG.1 hP 3 0 rfl rfl hi4 dX6_cave_75 ?_
        exact RET _ _ _ _ _ _ _ _ _ _ _ _ _ dX6_cave_76 hm hP hD hS
      · replace hm := ifn c1 hm
        refine lv_aload_n hx hb dX6_cave_33 rfl (lv_at hl 0 rfl) ?_
        refine va_get (D := (dC, dI)) (ci := 6) (v := .ref n_page) (C := RX6) (T := TX6) (N := 28) hx hb hts hinX6 hown hG.1 hP 0 rfl rfl 7 (by decide) k2 (fun _ h9 => h9) rfl dX6_cave_34 ?_
        refine lv_iload_n hx hb dX6_cave_37 rfl (lv_at hl 1 rfl) ?_
        refine lv_aload_n hx hb dX6_cave_38 rfl (lv_at hl 0 rfl) ?_
        refine va_get (D := (dC, dI)) (ci := 6) (v := .ref n_readPage) (C := RX6) (T := TX6) (N := 28) hx hb hts hinX6 hown hG.1 hP 0 rfl rfl 6 (by decide) k3 (fun _ h9 => h9) rfl dX6_cave_39 ?_
        refine lv_iload_n hx hb dX6_cave_42 rfl (lv_at hl 1 rfl) ?_
        obtain ⟨hi5, hm⟩ := chk_some hm
        refine va_iald hx hb hG.1 hP 2 0 rfl rfl hi5 dX6_cave_43 ?_
        refine lv_topi (fun t6 et6 => ?_)
        replace hm := (nmd_eq et6).trans hm
        obtain ⟨hi7, hm⟩ := chk_some hm
        refine va_iast hx hb hG.1 hP hD hS 3 0 rfl rfl hi7 dX6_cave_44 (fun H locs hP hD hS => ?_)
        replace hP : va_P (dC, dI) vwCl (wd_0ec463 k n_t n_text n_readPage n_page n_trial n_book n_kept n_isKept n_seenStation n_seenOther n_seenWide n_seenWas n_sines n_at n_column n_gram n_right n_work v_thrown v_textSize v_place v_stations v_readStations v_doings v_seen v_seed v_wide v_up v_low r_text r_readPage (upd r_page (Int32.toNatClampNeg x1) t6) r_isKept) H := hP
        replace hD : va_D A (wd_0ec463 k n_t n_text n_readPage n_page n_trial n_book n_kept n_isKept n_seenStation n_seenOther n_seenWide n_seenWas n_sines n_at n_column n_gram n_right n_work v_thrown v_textSize v_place v_stations v_readStations v_doings v_seen v_seed v_wide v_up v_low r_text r_readPage (upd r_page (Int32.toNatClampNeg x1) t6) r_isKept) := hD
        obtain ⟨t8, et8⟩ : ∃ y : Int32, y = x1 + (1 : Int32) := ⟨_, rfl⟩
        replace hm := (nmd_eq et8).trans hm
        refine lv_iinc (v := t8) (lv' := [(1, .int t8), (0, .ref n_t)]) hx hb dX6_cave_45 hl (k := 1) rfl (by rw [et8]; rfl) (by decide) rfl (fun ls hl => ?_)
        refine lv_goto (tgt := 27) hx hb dX6_cave_48 (by decide) ?_
        exact ih27 _ _ _ _ _ _ _ _ _ _ _ _ (lv_sub hl [1, 0] rfl) hP hD hS hm
  unfold f_X6_cave at hm
  refine lv_aload_n hx hb dX6_cave_0 rfl (lv_at hl 0 rfl) ?_
  refine lv_iconst (v := (0 : Int32)) hx hb dX6_cave_1 (by decide) ?_
  refine va_put (D := (dC, dI)) (ci := 6) (v := .int (0 : Int32)) (ty := .int) (C := RX6) (T := TX6) (N := 28) hx hb hts hinX6 tyX6 tyX6_ok nmX6 hown hG.1 hP hD hS 0 rfl rfl 0 (by decide) k4 (fun _ h9 => h9) rfl (by decide +kernel) rfl rfl (Nat.le_of_ble_eq_true rfl) dX6_cave_2 (fun H locs hP hD hS => ?_)
  replace hP : va_P (dC, dI) vwCl (wd_0ec463 k n_t n_text n_readPage n_page n_trial n_book n_kept n_isKept n_seenStation n_seenOther n_seenWide n_seenWas n_sines n_at n_column n_gram n_right n_work (0 : Int32) v_textSize v_place v_stations v_readStations v_doings v_seen v_seed v_wide v_up v_low r_text r_readPage r_page r_isKept) H := hP
  replace hD : va_D A (wd_0ec463 k n_t n_text n_readPage n_page n_trial n_book n_kept n_isKept n_seenStation n_seenOther n_seenWide n_seenWas n_sines n_at n_column n_gram n_right n_work (0 : Int32) v_textSize v_place v_stations v_readStations v_doings v_seen v_seed v_wide v_up v_low r_text r_readPage r_page r_isKept) := hD
  refine lv_aload_n hx hb dX6_cave_5 rfl (lv_at hl 0 rfl) ?_
  obtain ⟨r9, w10, w11, w12, e13, hm⟩ := bnd4_some hm
  refine g_calli (w2 := (wd_0ec463 k n_t n_text n_readPage n_page n_trial n_book n_kept n_isKept n_seenStation n_seenOther n_seenWide n_seenWas n_sines n_at n_column n_gram n_right n_work (0 : Int32) v_textSize w10 v_stations w11 v_doings v_seen v_seed v_wide v_up v_low r_text w12 r_page r_isKept)) (va_runV (As := []) (rest := []) ⟨hx, hb, hml, hown, hts⟩ (m_X6_readCave l dC dI k F H.size n_t n_text n_readPage n_page n_trial n_book n_kept n_isKept n_seenStation n_seenOther n_seenWide n_seenWas n_sines n_at n_column n_gram n_right n_work (0 : Int32) v_textSize v_place v_stations v_readStations v_doings v_seen v_seed v_wide v_up v_low r_text r_readPage  e13) (cwV 0 hts gX6_cave_X6_readCave rfl rfl rfl (by decide +kernel) ⟨Nat.le_of_ble_eq_true rfl, Nat.le_of_ble_eq_true rfl⟩) (g_preV hG hP hD hS hA [0, 1, 2] rfl (by decide) (ci := 6) (q0 := 0) rfl rfl) rfl rfl hl.1 rfl (lv_room (Nat.le_of_ble_eq_true rfl)) dX6_cave_6 ⟨Nat.le_of_ble_eq_true rfl, Nat.le_of_ble_eq_true rfl⟩) hP hD hS hA [0, 1, 2] [3, 4] [2, 3, 4, 0, 1] rfl rfl (by decide) (by decide) rfl (by decide) (fun H locs hP hD hS => ?_)
  refine lv_bipush (v := (-9 : Int32)) hx hb dX6_cave_9 (by decide) ?_
  refine lv_icmp_eq (tgt := 17) hx hb dX6_cave_11 (by decide) (fun c14 => ?_) (fun c14 => ?_)
  · replace hm := ifp c14 hm
    refine lv_aload_n hx hb dX6_cave_17 rfl (lv_at hl 0 rfl) ?_
    refine lv_aload_n hx hb dX6_cave_18 rfl (lv_at hl 0 rfl) ?_
    refine va_get (D := (dC, dI)) (ci := 6) (v := .int w11) (C := RX6) (T := TX6) (N := 28) hx hb hts hinX6 hown hG.1 hP 0 rfl rfl 5 (by decide) k5 (fun _ h9 => h9) rfl dX6_cave_19 ?_
    refine va_put (D := (dC, dI)) (ci := 6) (v := .int w11) (ty := .int) (C := RX6) (T := TX6) (N := 28) hx hb hts hinX6 tyX6 tyX6_ok nmX6 hown hG.1 hP hD hS 0 rfl rfl 4 (by decide) k6 (fun _ h9 => h9) rfl (by decide +kernel) rfl rfl (Nat.le_of_ble_eq_true rfl) dX6_cave_22 (fun H locs hP hD hS => ?_)
    replace hP : va_P (dC, dI) vwCl (wd_0ec463 k n_t n_text n_readPage n_page n_trial n_book n_kept n_isKept n_seenStation n_seenOther n_seenWide n_seenWas n_sines n_at n_column n_gram n_right n_work (0 : Int32) v_textSize w10 w11 w11 v_doings v_seen v_seed v_wide v_up v_low r_text w12 r_page r_isKept) H := hP
    replace hD : va_D A (wd_0ec463 k n_t n_text n_readPage n_page n_trial n_book n_kept n_isKept n_seenStation n_seenOther n_seenWide n_seenWas n_sines n_at n_column n_gram n_right n_work (0 : Int32) v_textSize w10 w11 w11 v_doings v_seen v_seed v_wide v_up v_low r_text w12 r_page r_isKept) := hD
    refine lv_iconst (v := (0 : Int32)) hx hb dX6_cave_25 (by decide) ?_
    refine lv_istore_n (lv' := [(1, .int (0 : Int32)), (0, .ref n_t)]) hx hb dX6_cave_26 rfl hl (by decide) rfl (fun ls hl => ?_)
    exact L_27 F _ _ _ _ _ _ _ _ _ _ _ _ (lv_sub hl [1, 0] rfl) hP hD hS hm
  · replace hm := ifn c14 hm
    refine lv_bipush (v := (-3 : Int32)) hx hb dX6_cave_14 (by decide) ?_
    exact RET _ _ _ _ _ _ _ _ _ _ _ _ _ dX6_cave_16 hm hP hD hS
set_option maxRecDepth 100000 in
theorem m_X6_cave (l : Launch) (dC : Nat → ClassId) (dI : Nat → Nat → Nat) (k : Nat → ClassId) (F : Nat) (sz : Nat) (n_t n_text n_readPage n_page n_trial n_book n_kept n_isKept n_seenStation n_seenOther n_seenWide n_seenWas n_sines n_at n_column n_gram n_right n_work : Nat) (v_thrown : Int32) (v_textSize : Int32) (v_place : Int32) (v_stations : Int32) (v_readStations : Int32) (v_doings : Int32) (v_seen : Int32) (v_seed : Int64) (v_wide : Int32) (v_up : Int64) (v_low : Int64) (r_text : Nat → Int32) (r_readPage : Nat → Int32) (r_page : Nat → Int32) (r_isKept : Nat → Int32) {o_r : Int32} {o_v_thrown : (Int32)} {o_v_place : (Int32)} {o_v_stations : (Int32)} {o_v_readStations : (Int32)} {o_v_doings : (Int32)} {o_r_readPage : (Nat → Int32)} {o_r_page : (Nat → Int32)} {o_r_isKept : (Nat → Int32)} (hm : f_X6_cave F v_thrown v_textSize v_place v_stations v_readStations v_doings r_text r_readPage r_page r_isKept = some (o_r, o_v_thrown, o_v_place, o_v_stations, o_v_readStations, o_v_doings, o_r_readPage, o_r_page, o_r_isKept)) : Met l yX6_cave wsX6_cave rm_X6_cave (gPre dC dI k [.ref n_t] sz (wd_0ec463 k n_t n_text n_readPage n_page n_trial n_book n_kept n_isKept n_seenStation n_seenOther n_seenWide n_seenWas n_sines n_at n_column n_gram n_right n_work v_thrown v_textSize v_place v_stations v_readStations v_doings v_seen v_seed v_wide v_up v_low r_text r_readPage r_page r_isKept)) (gQI dC dI (va_A (wd_0ec463 k n_t n_text n_readPage n_page n_trial n_book n_kept n_isKept n_seenStation n_seenOther n_seenWide n_seenWas n_sines n_at n_column n_gram n_right n_work v_thrown v_textSize v_place v_stations v_readStations v_doings v_seen v_seed v_wide v_up v_low r_text r_readPage r_page r_isKept) sz) o_r (wd_0ec463 k n_t n_text n_readPage n_page n_trial n_book n_kept n_isKept n_seenStation n_seenOther n_seenWide n_seenWas n_sines n_at n_column n_gram n_right n_work o_v_thrown v_textSize o_v_place o_v_stations o_v_readStations o_v_doings v_seen v_seed v_wide v_up v_low r_text o_r_readPage o_r_page o_r_isKept)) 0 0 (va_A (wd_0ec463 k n_t n_text n_readPage n_page n_trial n_book n_kept n_isKept n_seenStation n_seenOther n_seenWide n_seenWas n_sines n_at n_column n_gram n_right n_work v_thrown v_textSize v_place v_stations v_readStations v_doings v_seen v_seed v_wide v_up v_low r_text r_readPage r_page r_isKept) sz) := by
  refine g_entry (cc := cX6_cave) (maxL := 2) (ret := (some .int)) (lv := [(0, .ref n_t)]) (by decide +kernel) rfl (Nat.le_of_ble_eq_true rfl) rfl (fun p e s m below meth c ls hx hb hr hml hts hown hlk hnm hsz hG hA hP hD hS hl => ?_)
  exact k_X6_cave hx hb hml hts hown hG hA F n_t n_text n_readPage n_page n_trial n_book n_kept n_isKept n_seenStation n_seenOther n_seenWide n_seenWas n_sines n_at n_column n_gram n_right n_work v_thrown v_textSize v_place v_stations v_readStations v_doings v_seen v_seed v_wide v_up v_low r_text r_readPage r_page r_isKept o_r o_v_thrown o_v_place o_v_stations o_v_readStations o_v_doings o_r_readPage o_r_page o_r_isKept (fun pc H locs ls v q_v_thrown q_v_place q_v_stations q_v_readStations q_v_doings q_r_readPage q_r_page q_r_isKept hd ho hP hD hS => by cases ho; exact g_ireti hx hb hr hlk hP hD hS hd) s.heap [] ls hl hP hD hS hm
end
section
set_option maxHeartbeats 4000000 in
set_option maxRecDepth 100000 in
theorem k_X6_level {p : Program} {l : Launch} {e : Env} {s : State} {m : MethodId} {args : Array Value} {below : List Frame} {meth : Method} {c : Code} {A : Nat → Prop} {Q : State → Prop} {dC : Nat → ClassId} {dI : Nat → Nat → Nat} {k : Nat → ClassId} (hx : p.tables.exec = Jvm.exec) (hb : c.code = cX6_level) (hml : c.maxLocals = 2) (hts : ∀ w ∈ wsX6_level, w.before args s = true) (hown : s.vm.findClass RX6 = some m.cls) (hG : gK dC dI k A s) (hA : ∀ q : Nat, s.heap.size ≤ q → A q)  (x0 : Int32) (x1 : Int32) (o_r : Int32) (RET : ∀ (pc : Nat) (H : Heap) (locs : List Loc) (ls : Array Slot) (v : Int32), decode cX6_level pc = .ok (.ireturn, 1) → some v = some o_r → va_P (dC, dI) vwCl [] H → va_D A [] → va_S A s.heap H locs → W p l e rm_X6_level s m args below meth c H locs 0 0 Q (F0 m pc ls [.int v])) (H : Heap) (locs : List Loc) (ls : Array Slot) (hl : lv_has ls 2 [(0, .int x0), (1, .int x1)]) (hP : va_P (dC, dI) vwCl [] H) (hD : va_D A []) (hS : va_S A s.heap H locs) (hm : f_X6_level x0 x1 = some o_r) : W p l e rm_X6_level s m args below meth c H locs 0 0 Q (F0 m 0 ls []) := by
  have J_19 : ∀ (x0 : Int32) (H : Heap) (locs : List Loc) (ls : Array Slot), lv_has ls 2 [(0, .int x0)] → va_P (dC, dI) vwCl [] H → va_D A [] → va_S A s.heap H locs → f_X6_level_J19  x0 = some o_r → W p l e rm_X6_level s m args below meth c H locs 0 0 Q (F0 m 19 ls []) := by
    intro x0 H locs ls hl hP hD hS hm
    unfold f_X6_level_J19 at hm
    refine lv_iload_n hx hb dX6_level_19 rfl (lv_at hl 0 rfl) ?_
    refine lv_bipush (v := (87 : Int32)) hx hb dX6_level_20 (by decide) ?_
    refine lv_imul hx hb dX6_level_22 ?_
    refine lv_bipush (v := (100 : Int32)) hx hb dX6_level_23 (by decide) ?_
    refine lv_idiv hx hb dX6_level_25 (by decide) ?_
    refine lv_goto (tgt := 36) hx hb dX6_level_26 (by decide) ?_
    exact RET _ _ _ _ _ dX6_level_36 hm hP hD hS
  unfold f_X6_level at hm
  refine lv_iload_n hx hb dX6_level_0 rfl (lv_at hl 1 rfl) ?_
  refine lv_iconst (v := (2 : Int32)) hx hb dX6_level_1 (by decide) ?_
  refine lv_icmp_ne (tgt := 9) hx hb dX6_level_2 (by decide) (fun c1 => ?_) (fun c1 => ?_)
  · replace hm := ifn c1 hm
    refine lv_iload_n hx hb dX6_level_9 rfl (lv_at hl 1 rfl) ?_
    refine lv_iconst (v := (1 : Int32)) hx hb dX6_level_10 (by decide) ?_
    refine lv_icmp_eq (tgt := 19) hx hb dX6_level_11 (by decide) (fun c2 => ?_) (fun c2 => ?_)
    · replace hm := ifp c2 hm
      exact J_19 _ _ _ _ (lv_sub hl [0] rfl) hP hD hS hm
    · replace hm := ifn c2 hm
      refine lv_iload_n hx hb dX6_level_14 rfl (lv_at hl 1 rfl) ?_
      refine lv_iconst (v := (3 : Int32)) hx hb dX6_level_15 (by decide) ?_
      refine lv_icmp_ne (tgt := 29) hx hb dX6_level_16 (by decide) (fun c3 => ?_) (fun c3 => ?_)
      · replace hm := ifn c3 hm
        refine lv_iload_n hx hb dX6_level_29 rfl (lv_at hl 0 rfl) ?_
        refine lv_bipush (v := (50 : Int32)) hx hb dX6_level_30 (by decide) ?_
        refine lv_imul hx hb dX6_level_32 ?_
        refine lv_bipush (v := (100 : Int32)) hx hb dX6_level_33 (by decide) ?_
        refine lv_idiv hx hb dX6_level_35 (by decide) ?_
        exact RET _ _ _ _ _ dX6_level_36 hm hP hD hS
      · replace hm := ifp c3 hm
        exact J_19 _ _ _ _ (lv_sub hl [0] rfl) hP hD hS hm
  · replace hm := ifp c1 hm
    refine lv_iload_n hx hb dX6_level_5 rfl (lv_at hl 0 rfl) ?_
    refine lv_goto (tgt := 36) hx hb dX6_level_6 (by decide) ?_
    exact RET _ _ _ _ _ dX6_level_36 hm hP hD hS
set_option maxRecDepth 100000 in
theorem m_X6_level (l : Launch) (dC : Nat → ClassId) (dI : Nat → Nat → Nat) (k : Nat → ClassId) (sz : Nat)  (x0 : Int32) (x1 : Int32) {o_r : Int32} (hm : f_X6_level x0 x1 = some o_r) : Met l yX6_level wsX6_level rm_X6_level (gPre dC dI k [.int x0, .int x1] sz []) (gQI dC dI (va_A [] sz) o_r []) 0 0 (va_A [] sz) := by
  refine g_entry (cc := cX6_level) (maxL := 2) (ret := (some .int)) (lv := [(0, .int x0), (1, .int x1)]) (by decide +kernel) rfl (Nat.le_of_ble_eq_true rfl) rfl (fun p e s m below meth c ls hx hb hr hml hts hown hlk hnm hsz hG hA hP hD hS hl => ?_)
  exact k_X6_level hx hb hml hts hown hG hA x0 x1 o_r (fun pc H locs ls v hd ho hP hD hS => by cases ho; exact g_ireti hx hb hr hlk hP hD hS hd) s.heap [] ls hl hP hD hS hm
end
section
set_option maxHeartbeats 4000000 in
set_option maxRecDepth 100000 in
theorem k_X6_rise {p : Program} {l : Launch} {e : Env} {s : State} {m : MethodId} {args : Array Value} {below : List Frame} {meth : Method} {c : Code} {A : Nat → Prop} {Q : State → Prop} {dC : Nat → ClassId} {dI : Nat → Nat → Nat} {k : Nat → ClassId} (hx : p.tables.exec = Jvm.exec) (hb : c.code = cX6_rise) (hml : c.maxLocals = 2) (hts : ∀ w ∈ wsX6_rise, w.before args s = true) (hown : s.vm.findClass RX6 = some m.cls) (hG : gK dC dI k A s) (hA : ∀ q : Nat, s.heap.size ≤ q → A q)  (x0 : Int32) (x1 : Int32) (o_r : Int32) (RET : ∀ (pc : Nat) (H : Heap) (locs : List Loc) (ls : Array Slot) (v : Int32), decode cX6_rise pc = .ok (.ireturn, 1) → some v = some o_r → va_P (dC, dI) vwCl [] H → va_D A [] → va_S A s.heap H locs → W p l e rm_X6_rise s m args below meth c H locs 0 0 Q (F0 m pc ls [.int v])) (H : Heap) (locs : List Loc) (ls : Array Slot) (hl : lv_has ls 2 [(0, .int x0), (1, .int x1)]) (hP : va_P (dC, dI) vwCl [] H) (hD : va_D A []) (hS : va_S A s.heap H locs) (hm : f_X6_rise x0 x1 = some o_r) : W p l e rm_X6_rise s m args below meth c H locs 0 0 Q (F0 m 0 ls []) := by
  unfold f_X6_rise at hm
  refine lv_iload_n hx hb dX6_rise_0 rfl (lv_at hl 1 rfl) ?_
  by_cases c1 : x1 = (0 : Int32)
  · replace hm := ifp c1 hm
    refine lv_tableIn (off := 35) (tgt := 36) hx hb dX6_rise_1 (by rw [c1]; decide) (by rw [c1]; decide) (by rw [c1]; rfl) (by decide) ?_
    refine lv_iload_n hx hb dX6_rise_36 rfl (lv_at hl 0 rfl) ?_
    refine lv_bipush (v := (87 : Int32)) hx hb dX6_rise_37 (by decide) ?_
    refine lv_imul hx hb dX6_rise_39 ?_
    refine lv_bipush (v := (100 : Int32)) hx hb dX6_rise_40 (by decide) ?_
    refine lv_idiv hx hb dX6_rise_42 (by decide) ?_
    refine lv_ineg hx hb dX6_rise_43 ?_
    exact RET _ _ _ _ _ dX6_rise_44 hm hP hD hS
  · replace hm := ifn c1 hm
    by_cases c2 : x1 = (1 : Int32)
    · replace hm := ifp c2 hm
      refine lv_tableIn (off := 44) (tgt := 45) hx hb dX6_rise_1 (by rw [c2]; decide) (by rw [c2]; decide) (by rw [c2]; rfl) (by decide) ?_
      refine lv_iload_n hx hb dX6_rise_45 rfl (lv_at hl 0 rfl) ?_
      refine lv_iconst (v := (2 : Int32)) hx hb dX6_rise_46 (by decide) ?_
      refine lv_idiv hx hb dX6_rise_47 (by decide) ?_
      refine lv_ineg hx hb dX6_rise_48 ?_
      exact RET _ _ _ _ _ dX6_rise_49 hm hP hD hS
    · replace hm := ifn c2 hm
      by_cases c3 : x1 = (2 : Int32)
      · replace hm := ifp c3 hm
        refine lv_tableIn (off := 61) (tgt := 62) hx hb dX6_rise_1 (by rw [c3]; decide) (by rw [c3]; decide) (by rw [c3]; rfl) (by decide) ?_
        refine lv_iconst (v := (0 : Int32)) hx hb dX6_rise_62 (by decide) ?_
        exact RET _ _ _ _ _ dX6_rise_63 hm hP hD hS
      · replace hm := ifn c3 hm
        by_cases c4 : x1 = (3 : Int32)
        · replace hm := ifp c4 hm
          refine lv_tableIn (off := 49) (tgt := 50) hx hb dX6_rise_1 (by rw [c4]; decide) (by rw [c4]; decide) (by rw [c4]; rfl) (by decide) ?_
          refine lv_iload_n hx hb dX6_rise_50 rfl (lv_at hl 0 rfl) ?_
          refine lv_iconst (v := (2 : Int32)) hx hb dX6_rise_51 (by decide) ?_
          refine lv_idiv hx hb dX6_rise_52 (by decide) ?_
          exact RET _ _ _ _ _ dX6_rise_53 hm hP hD hS
        · replace hm := ifn c4 hm
          by_cases c5 : x1 = (4 : Int32)
          · replace hm := ifp c5 hm
            refine lv_tableIn (off := 53) (tgt := 54) hx hb dX6_rise_1 (by rw [c5]; decide) (by rw [c5]; decide) (by rw [c5]; rfl) (by decide) ?_
            refine lv_iload_n hx hb dX6_rise_54 rfl (lv_at hl 0 rfl) ?_
            refine lv_bipush (v := (87 : Int32)) hx hb dX6_rise_55 (by decide) ?_
            refine lv_imul hx hb dX6_rise_57 ?_
            refine lv_bipush (v := (100 : Int32)) hx hb dX6_rise_58 (by decide) ?_
            refine lv_idiv hx hb dX6_rise_60 (by decide) ?_
            exact RET _ _ _ _ _ dX6_rise_61 hm hP hD hS
          · replace hm := ifn c5 hm
            refine lv_tableOut (tgt := 62) hx hb dX6_rise_1 (by have qc1 := i32_ne c1 (z := 0) (by decide); have qc2 := i32_ne c2 (z := 1) (by decide); have qc3 := i32_ne c3 (z := 2) (by decide); have qc4 := i32_ne c4 (z := 3) (by decide); have qc5 := i32_ne c5 (z := 4) (by decide); omega) (by decide) ?_
            refine lv_iconst (v := (0 : Int32)) hx hb dX6_rise_62 (by decide) ?_
            exact RET _ _ _ _ _ dX6_rise_63 hm hP hD hS
set_option maxRecDepth 100000 in
theorem m_X6_rise (l : Launch) (dC : Nat → ClassId) (dI : Nat → Nat → Nat) (k : Nat → ClassId) (sz : Nat)  (x0 : Int32) (x1 : Int32) {o_r : Int32} (hm : f_X6_rise x0 x1 = some o_r) : Met l yX6_rise wsX6_rise rm_X6_rise (gPre dC dI k [.int x0, .int x1] sz []) (gQI dC dI (va_A [] sz) o_r []) 0 0 (va_A [] sz) := by
  refine g_entry (cc := cX6_rise) (maxL := 2) (ret := (some .int)) (lv := [(0, .int x0), (1, .int x1)]) (by decide +kernel) rfl (Nat.le_of_ble_eq_true rfl) rfl (fun p e s m below meth c ls hx hb hr hml hts hown hlk hnm hsz hG hA hP hD hS hl => ?_)
  exact k_X6_rise hx hb hml hts hown hG hA x0 x1 o_r (fun pc H locs ls v hd ho hP hD hS => by cases ho; exact g_ireti hx hb hr hlk hP hD hS hd) s.heap [] ls hl hP hD hS hm
end
section
set_option maxHeartbeats 4000000 in
set_option maxRecDepth 100000 in
theorem k_X6_stepOf {p : Program} {l : Launch} {e : Env} {s : State} {m : MethodId} {args : Array Value} {below : List Frame} {meth : Method} {c : Code} {A : Nat → Prop} {Q : State → Prop} {dC : Nat → ClassId} {dI : Nat → Nat → Nat} {k : Nat → ClassId} (hx : p.tables.exec = Jvm.exec) (hb : c.code = cX6_stepOf) (hml : c.maxLocals = 6) (hts : ∀ w ∈ wsX6_stepOf, w.before args s = true) (hown : s.vm.findClass RX6 = some m.cls) (hG : gK dC dI k A s) (hA : ∀ q : Nat, s.heap.size ≤ q → A q) (n_t n_p1 n_text n_readPage n_page n_trial n_book n_kept n_isKept n_seenStation n_seenOther n_seenWide n_seenWas n_sines n_at n_column n_gram n_right n_work : Nat) (v_thrown : Int32) (v_textSize : Int32) (v_place : Int32) (v_stations : Int32) (v_readStations : Int32) (v_doings : Int32) (v_seen : Int32) (v_seed : Int64) (v_wide : Int32) (v_up : Int64) (v_low : Int64) (r_sines : Nat → Int32) (r_p1 : Nat → Int32) (x2 : Int32) (x3 : Int32) (o_r : Int32) (RET : ∀ (pc : Nat) (H : Heap) (locs : List Loc) (ls : Array Slot) (v : Int32), decode cX6_stepOf pc = .ok (.ireturn, 1) → some v = some o_r → va_P (dC, dI) vwCl (wd_6a2cc4 k n_t n_p1 n_text n_readPage n_page n_trial n_book n_kept n_isKept n_seenStation n_seenOther n_seenWide n_seenWas n_sines n_at n_column n_gram n_right n_work v_thrown v_textSize v_place v_stations v_readStations v_doings v_seen v_seed v_wide v_up v_low r_sines r_p1) H → va_D A (wd_6a2cc4 k n_t n_p1 n_text n_readPage n_page n_trial n_book n_kept n_isKept n_seenStation n_seenOther n_seenWide n_seenWas n_sines n_at n_column n_gram n_right n_work v_thrown v_textSize v_place v_stations v_readStations v_doings v_seen v_seed v_wide v_up v_low r_sines r_p1) → va_S A s.heap H locs → W p l e rm_X6_stepOf s m args below meth c H locs 0 0 Q (F0 m pc ls [.int v])) (H : Heap) (locs : List Loc) (ls : Array Slot) (hl : lv_has ls 6 [(0, .ref n_t), (1, .ref n_p1), (2, .int x2), (3, .int x3)]) (hP : va_P (dC, dI) vwCl (wd_6a2cc4 k n_t n_p1 n_text n_readPage n_page n_trial n_book n_kept n_isKept n_seenStation n_seenOther n_seenWide n_seenWas n_sines n_at n_column n_gram n_right n_work v_thrown v_textSize v_place v_stations v_readStations v_doings v_seen v_seed v_wide v_up v_low r_sines r_p1) H) (hD : va_D A (wd_6a2cc4 k n_t n_p1 n_text n_readPage n_page n_trial n_book n_kept n_isKept n_seenStation n_seenOther n_seenWide n_seenWas n_sines n_at n_column n_gram n_right n_work v_thrown v_textSize v_place v_stations v_readStations v_doings v_seen v_seed v_wide v_up v_low r_sines r_p1)) (hS : va_S A s.heap H locs) (hm : f_X6_stepOf x2 x3 r_sines r_p1 = some o_r) : W p l e rm_X6_stepOf s m args below meth c H locs 0 0 Q (F0 m 0 ls []) := by
  have hinX6 : ∀ w ∈ u_ws RX6 TX6 28, w ∈ wsX6_stepOf := by decide +kernel
  have k0 := hts (.fieldLink RX6 48 "CaveLegsModel" "sines" "[I") (by decide +kernel)
  unfold f_X6_stepOf at hm
  refine lv_aload_n hx hb dX6_stepOf_0 rfl (lv_at hl 1 rfl) ?_
  refine lv_iload_n hx hb dX6_stepOf_1 rfl (lv_at hl 2 rfl) ?_
  refine lv_iconst (v := (0 : Int32)) hx hb dX6_stepOf_2 (by decide) ?_
  obtain ⟨r1, e2, hm⟩ := bnd1_some hm
  refine g_calli (w2 := (wd_6a2cc4 k n_t n_p1 n_text n_readPage n_page n_trial n_book n_kept n_isKept n_seenStation n_seenOther n_seenWide n_seenWas n_sines n_at n_column n_gram n_right n_work v_thrown v_textSize v_place v_stations v_readStations v_doings v_seen v_seed v_wide v_up v_low r_sines r_p1)) (va_runS (As := [.ref n_p1, .int x2, .int (0 : Int32)]) (rest := []) ⟨hx, hb, hml, hown, hts⟩ (m_X6_of l dC dI k H.size n_p1 r_p1 x2 (0 : Int32) e2) (va_cwS 3 hts gX6_stepOf_X6_of rfl rfl rfl (by decide +kernel) ⟨Nat.le_of_ble_eq_true rfl, Nat.le_of_ble_eq_true rfl⟩) (g_preS hG hP hD hS hA [2] rfl (by decide)) rfl rfl hl.1 rfl (lv_room (Nat.le_of_ble_eq_true rfl)) dX6_stepOf_3 ⟨Nat.le_of_ble_eq_true rfl, Nat.le_of_ble_eq_true rfl⟩) hP hD hS hA [2] [0, 1] [0, 1, 2] rfl rfl (by decide) (by decide) rfl (by decide) (fun H locs hP hD hS => ?_)
  refine lv_istore (lv' := [(4, .int r1), (0, .ref n_t), (1, .ref n_p1), (2, .int x2), (3, .int x3)]) hx hb dX6_stepOf_6 hl (by decide) rfl (fun ls hl => ?_)
  refine lv_aload_n hx hb dX6_stepOf_8 rfl (lv_at hl 2 rfl) ?_
  refine lv_iload_n hx hb dX6_stepOf_9 rfl (lv_at hl 3 rfl) ?_
  refine lv_iconst (v := (2 : Int32)) hx hb dX6_stepOf_10 (by decide) ?_
  obtain ⟨r3, e4, hm⟩ := bnd1_some hm
  refine g_calli (w2 := (wd_6a2cc4 k n_t n_p1 n_text n_readPage n_page n_trial n_book n_kept n_isKept n_seenStation n_seenOther n_seenWide n_seenWas n_sines n_at n_column n_gram n_right n_work v_thrown v_textSize v_place v_stations v_readStations v_doings v_seen v_seed v_wide v_up v_low r_sines r_p1)) (va_runS (As := [.ref n_p1, .int x2, .int (2 : Int32)]) (rest := []) ⟨hx, hb, hml, hown, hts⟩ (m_X6_of l dC dI k H.size n_p1 r_p1 x2 (2 : Int32) e4) (va_cwS 3 hts gX6_stepOf_X6_of rfl rfl rfl (by decide +kernel) ⟨Nat.le_of_ble_eq_true rfl, Nat.le_of_ble_eq_true rfl⟩) (g_preS hG hP hD hS hA [2] rfl (by decide)) rfl rfl hl.1 rfl (lv_room (Nat.le_of_ble_eq_true rfl)) dX6_stepOf_11 ⟨Nat.le_of_ble_eq_true rfl, Nat.le_of_ble_eq_true rfl⟩) hP hD hS hA [2] [0, 1] [0, 1, 2] rfl rfl (by decide) (by decide) rfl (by decide) (fun H locs hP hD hS => ?_)
  refine lv_istore (lv' := [(5, .int r3), (4, .int r1), (0, .ref n_t), (1, .ref n_p1), (2, .int x2), (3, .int x3)]) hx hb dX6_stepOf_14 hl (by decide) rfl (fun ls hl => ?_)
  refine lv_iload_n hx hb dX6_stepOf_16 rfl (lv_at hl 5 rfl) ?_
  refine lv_iconst (v := (2 : Int32)) hx hb dX6_stepOf_17 (by decide) ?_
  refine lv_icmp_ne (tgt := 29) hx hb dX6_stepOf_18 (by decide) (fun c5 => ?_) (fun c5 => ?_)
  · replace hm := ifn c5 hm
    refine lv_iload hx hb dX6_stepOf_29 (lv_at hl 1 rfl) ?_
    refine lv_iload hx hb dX6_stepOf_31 (lv_at hl 0 rfl) ?_
    obtain ⟨r6, e7, hm⟩ := bnd1_some hm
    refine g_calli (w2 := (wd_6a2cc4 k n_t n_p1 n_text n_readPage n_page n_trial n_book n_kept n_isKept n_seenStation n_seenOther n_seenWide n_seenWas n_sines n_at n_column n_gram n_right n_work v_thrown v_textSize v_place v_stations v_readStations v_doings v_seen v_seed v_wide v_up v_low r_sines r_p1)) (va_runS (As := [.int r1, .int r3]) (rest := []) ⟨hx, hb, hml, hown, hts⟩ (m_X6_level l dC dI k H.size  r1 r3 e7) (va_cwS 2 hts gX6_stepOf_X6_level rfl rfl rfl (by decide +kernel) ⟨Nat.le_of_ble_eq_true rfl, Nat.le_of_ble_eq_true rfl⟩) (g_preS hG hP hD hS hA [] rfl (by decide)) rfl rfl hl.1 rfl (lv_room (Nat.le_of_ble_eq_true rfl)) dX6_stepOf_33 ⟨Nat.le_of_ble_eq_true rfl, Nat.le_of_ble_eq_true rfl⟩) hP hD hS hA [] [0, 1, 2] [0, 1, 2] rfl rfl (by decide) (by decide) rfl (by decide) (fun H locs hP hD hS => ?_)
    refine lv_aload_n hx hb dX6_stepOf_36 rfl (lv_at hl 2 rfl) ?_
    refine va_get (D := (dC, dI)) (ci := 6) (v := .ref n_sines) (C := RX6) (T := TX6) (N := 28) hx hb hts hinX6 hown hG.1 hP 0 rfl rfl 19 (by decide) k0 (fun _ h9 => h9) rfl dX6_stepOf_37 ?_
    refine lv_aload_n hx hb dX6_stepOf_40 rfl (lv_at hl 3 rfl) ?_
    refine lv_iload_n hx hb dX6_stepOf_41 rfl (lv_at hl 4 rfl) ?_
    refine lv_iconst (v := (1 : Int32)) hx hb dX6_stepOf_42 (by decide) ?_
    obtain ⟨r8, e9, hm⟩ := bnd1_some hm
    refine g_calli (w2 := (wd_6a2cc4 k n_t n_p1 n_text n_readPage n_page n_trial n_book n_kept n_isKept n_seenStation n_seenOther n_seenWide n_seenWas n_sines n_at n_column n_gram n_right n_work v_thrown v_textSize v_place v_stations v_readStations v_doings v_seen v_seed v_wide v_up v_low r_sines r_p1)) (va_runS (As := [.ref n_p1, .int x2, .int (1 : Int32)]) (rest := [.ref n_sines, .int r6]) ⟨hx, hb, hml, hown, hts⟩ (m_X6_of l dC dI k H.size n_p1 r_p1 x2 (1 : Int32) e9) (va_cwS 3 hts gX6_stepOf_X6_of rfl rfl rfl (by decide +kernel) ⟨Nat.le_of_ble_eq_true rfl, Nat.le_of_ble_eq_true rfl⟩) (g_preS hG hP hD hS hA [2] rfl (by decide)) rfl rfl hl.1 rfl (lv_room (Nat.le_of_ble_eq_true rfl)) dX6_stepOf_43 ⟨Nat.le_of_ble_eq_true rfl, Nat.le_of_ble_eq_true rfl⟩) hP hD hS hA [2] [0, 1] [0, 1, 2] rfl rfl (by decide) (by decide) rfl (by decide) (fun H locs hP hD hS => ?_)
    refine lv_iconst (v := (3 : Int32)) hx hb dX6_stepOf_46 (by decide) ?_
    refine lv_iload_n hx hb dX6_stepOf_47 rfl (lv_at hl 5 rfl) ?_
    refine lv_imul hx hb dX6_stepOf_48 ?_
    refine lv_iadd hx hb dX6_stepOf_49 ?_
    refine lv_bipush (v := (12 : Int32)) hx hb dX6_stepOf_50 (by decide) ?_
    refine g_irem hx hb dX6_stepOf_52 (by decide) ?_
    obtain ⟨hi10, hm⟩ := chk_some hm
    refine va_iald hx hb hG.1 hP 1 0 rfl rfl hi10 dX6_stepOf_53 ?_
    refine lv_imul hx hb dX6_stepOf_54 ?_
    refine lv_bipush (v := (100 : Int32)) hx hb dX6_stepOf_55 (by decide) ?_
    refine lv_idiv hx hb dX6_stepOf_57 (by decide) ?_
    exact RET _ _ _ _ _ dX6_stepOf_58 hm hP hD hS
  · replace hm := ifp c5 hm
    refine lv_iload hx hb dX6_stepOf_21 (lv_at hl 1 rfl) ?_
    refine lv_iload hx hb dX6_stepOf_23 (lv_at hl 0 rfl) ?_
    obtain ⟨r11, e12, hm⟩ := bnd1_some hm
    refine g_calli (w2 := (wd_6a2cc4 k n_t n_p1 n_text n_readPage n_page n_trial n_book n_kept n_isKept n_seenStation n_seenOther n_seenWide n_seenWas n_sines n_at n_column n_gram n_right n_work v_thrown v_textSize v_place v_stations v_readStations v_doings v_seen v_seed v_wide v_up v_low r_sines r_p1)) (va_runS (As := [.int r1, .int r3]) (rest := []) ⟨hx, hb, hml, hown, hts⟩ (m_X6_rise l dC dI k H.size  r1 r3 e12) (va_cwS 2 hts gX6_stepOf_X6_rise rfl rfl rfl (by decide +kernel) ⟨Nat.le_of_ble_eq_true rfl, Nat.le_of_ble_eq_true rfl⟩) (g_preS hG hP hD hS hA [] rfl (by decide)) rfl rfl hl.1 rfl (lv_room (Nat.le_of_ble_eq_true rfl)) dX6_stepOf_25 ⟨Nat.le_of_ble_eq_true rfl, Nat.le_of_ble_eq_true rfl⟩) hP hD hS hA [] [0, 1, 2] [0, 1, 2] rfl rfl (by decide) (by decide) rfl (by decide) (fun H locs hP hD hS => ?_)
    exact RET _ _ _ _ _ dX6_stepOf_28 hm hP hD hS
set_option maxRecDepth 100000 in
theorem m_X6_stepOf (l : Launch) (dC : Nat → ClassId) (dI : Nat → Nat → Nat) (k : Nat → ClassId) (sz : Nat) (n_t n_p1 n_text n_readPage n_page n_trial n_book n_kept n_isKept n_seenStation n_seenOther n_seenWide n_seenWas n_sines n_at n_column n_gram n_right n_work : Nat) (v_thrown : Int32) (v_textSize : Int32) (v_place : Int32) (v_stations : Int32) (v_readStations : Int32) (v_doings : Int32) (v_seen : Int32) (v_seed : Int64) (v_wide : Int32) (v_up : Int64) (v_low : Int64) (r_sines : Nat → Int32) (r_p1 : Nat → Int32) (x2 : Int32) (x3 : Int32) {o_r : Int32} (hm : f_X6_stepOf x2 x3 r_sines r_p1 = some o_r) : Met l yX6_stepOf wsX6_stepOf rm_X6_stepOf (gPre dC dI k [.ref n_t, .ref n_p1, .int x2, .int x3] sz (wd_6a2cc4 k n_t n_p1 n_text n_readPage n_page n_trial n_book n_kept n_isKept n_seenStation n_seenOther n_seenWide n_seenWas n_sines n_at n_column n_gram n_right n_work v_thrown v_textSize v_place v_stations v_readStations v_doings v_seen v_seed v_wide v_up v_low r_sines r_p1)) (gQI dC dI (va_A (wd_6a2cc4 k n_t n_p1 n_text n_readPage n_page n_trial n_book n_kept n_isKept n_seenStation n_seenOther n_seenWide n_seenWas n_sines n_at n_column n_gram n_right n_work v_thrown v_textSize v_place v_stations v_readStations v_doings v_seen v_seed v_wide v_up v_low r_sines r_p1) sz) o_r (wd_6a2cc4 k n_t n_p1 n_text n_readPage n_page n_trial n_book n_kept n_isKept n_seenStation n_seenOther n_seenWide n_seenWas n_sines n_at n_column n_gram n_right n_work v_thrown v_textSize v_place v_stations v_readStations v_doings v_seen v_seed v_wide v_up v_low r_sines r_p1)) 0 0 (va_A (wd_6a2cc4 k n_t n_p1 n_text n_readPage n_page n_trial n_book n_kept n_isKept n_seenStation n_seenOther n_seenWide n_seenWas n_sines n_at n_column n_gram n_right n_work v_thrown v_textSize v_place v_stations v_readStations v_doings v_seen v_seed v_wide v_up v_low r_sines r_p1) sz) := by
  refine g_entry (cc := cX6_stepOf) (maxL := 6) (ret := (some .int)) (lv := [(0, .ref n_t), (1, .ref n_p1), (2, .int x2), (3, .int x3)]) (by decide +kernel) rfl (Nat.le_of_ble_eq_true rfl) rfl (fun p e s m below meth c ls hx hb hr hml hts hown hlk hnm hsz hG hA hP hD hS hl => ?_)
  exact k_X6_stepOf hx hb hml hts hown hG hA n_t n_p1 n_text n_readPage n_page n_trial n_book n_kept n_isKept n_seenStation n_seenOther n_seenWide n_seenWas n_sines n_at n_column n_gram n_right n_work v_thrown v_textSize v_place v_stations v_readStations v_doings v_seen v_seed v_wide v_up v_low r_sines r_p1 x2 x3 o_r (fun pc H locs ls v hd ho hP hD hS => by cases ho; exact g_ireti hx hb hr hlk hP hD hS hd) s.heap [] ls hl hP hD hS hm
end
section
set_option maxHeartbeats 4000000 in
set_option maxRecDepth 100000 in
theorem k_X6_leg {p : Program} {l : Launch} {e : Env} {s : State} {m : MethodId} {args : Array Value} {below : List Frame} {meth : Method} {c : Code} {A : Nat → Prop} {Q : State → Prop} {dC : Nat → ClassId} {dI : Nat → Nat → Nat} {k : Nat → ClassId} (hx : p.tables.exec = Jvm.exec) (hb : c.code = cX6_leg) (hml : c.maxLocals = 3) (hts : ∀ w ∈ wsX6_leg, w.before args s = true) (hown : s.vm.findClass RX6 = some m.cls) (hG : gK dC dI k A s) (hA : ∀ q : Nat, s.heap.size ≤ q → A q) (n_t n_text n_readPage n_page n_trial n_book n_kept n_isKept n_seenStation n_seenOther n_seenWide n_seenWas n_sines n_at n_column n_gram n_right n_work : Nat) (v_thrown : Int32) (v_textSize : Int32) (v_place : Int32) (v_stations : Int32) (v_readStations : Int32) (v_doings : Int32) (v_seen : Int32) (v_seed : Int64) (v_wide : Int32) (v_up : Int64) (v_low : Int64) (r_page : Nat → Int32) (r_sines : Nat → Int32) (x1 : Int32) (x2 : Int32) (o_r : Int32) (o_v_thrown : (Int32)) (RET : ∀ (pc : Nat) (H : Heap) (locs : List Loc) (ls : Array Slot) (v : Int32) (q_v_thrown : Int32), decode cX6_leg pc = .ok (.ireturn, 1) → some (v, q_v_thrown) = some (o_r, o_v_thrown) → va_P (dC, dI) vwCl (wd_f3666f k n_t n_text n_readPage n_page n_trial n_book n_kept n_isKept n_seenStation n_seenOther n_seenWide n_seenWas n_sines n_at n_column n_gram n_right n_work q_v_thrown v_textSize v_place v_stations v_readStations v_doings v_seen v_seed v_wide v_up v_low r_page r_sines) H → va_D A (wd_f3666f k n_t n_text n_readPage n_page n_trial n_book n_kept n_isKept n_seenStation n_seenOther n_seenWide n_seenWas n_sines n_at n_column n_gram n_right n_work q_v_thrown v_textSize v_place v_stations v_readStations v_doings v_seen v_seed v_wide v_up v_low r_page r_sines) → va_S A s.heap H locs → W p l e rm_X6_leg s m args below meth c H locs 0 0 Q (F0 m pc ls [.int v])) (H : Heap) (locs : List Loc) (ls : Array Slot) (hl : lv_has ls 3 [(0, .ref n_t), (1, .int x1), (2, .int x2)]) (hP : va_P (dC, dI) vwCl (wd_f3666f k n_t n_text n_readPage n_page n_trial n_book n_kept n_isKept n_seenStation n_seenOther n_seenWide n_seenWas n_sines n_at n_column n_gram n_right n_work v_thrown v_textSize v_place v_stations v_readStations v_doings v_seen v_seed v_wide v_up v_low r_page r_sines) H) (hD : va_D A (wd_f3666f k n_t n_text n_readPage n_page n_trial n_book n_kept n_isKept n_seenStation n_seenOther n_seenWide n_seenWas n_sines n_at n_column n_gram n_right n_work v_thrown v_textSize v_place v_stations v_readStations v_doings v_seen v_seed v_wide v_up v_low r_page r_sines)) (hS : va_S A s.heap H locs) (hm : f_X6_leg x1 x2 v_thrown r_page r_sines = some (o_r, o_v_thrown)) : W p l e rm_X6_leg s m args below meth c H locs 0 0 Q (F0 m 0 ls []) := by
  have hinX6 : ∀ w ∈ u_ws RX6 TX6 28, w ∈ wsX6_leg := by decide +kernel
  have k0 := hts (.fieldLink RX6 67 "CaveLegsModel" "thrown" "I") (by decide +kernel)
  have k1 := hts (.constantLong RX6 117 (9)) (by decide +kernel)
  have k2 := hts (.fieldLink RX6 20 "CaveLegsModel" "page" "[I") (by decide +kernel)
  unfold f_X6_leg at hm
  refine lv_aload_n hx hb dX6_leg_0 rfl (lv_at hl 0 rfl) ?_
  refine lv_iconst (v := (0 : Int32)) hx hb dX6_leg_1 (by decide) ?_
  refine va_put (D := (dC, dI)) (ci := 6) (v := .int (0 : Int32)) (ty := .int) (C := RX6) (T := TX6) (N := 28) hx hb hts hinX6 tyX6 tyX6_ok nmX6 hown hG.1 hP hD hS 0 rfl rfl 0 (by decide) k0 (fun _ h9 => h9) rfl (by decide +kernel) rfl rfl (Nat.le_of_ble_eq_true rfl) dX6_leg_2 (fun H locs hP hD hS => ?_)
  replace hP : va_P (dC, dI) vwCl (wd_f3666f k n_t n_text n_readPage n_page n_trial n_book n_kept n_isKept n_seenStation n_seenOther n_seenWide n_seenWas n_sines n_at n_column n_gram n_right n_work (0 : Int32) v_textSize v_place v_stations v_readStations v_doings v_seen v_seed v_wide v_up v_low r_page r_sines) H := hP
  replace hD : va_D A (wd_f3666f k n_t n_text n_readPage n_page n_trial n_book n_kept n_isKept n_seenStation n_seenOther n_seenWide n_seenWas n_sines n_at n_column n_gram n_right n_work (0 : Int32) v_textSize v_place v_stations v_readStations v_doings v_seen v_seed v_wide v_up v_low r_page r_sines) := hD
  refine lv_aload_n hx hb dX6_leg_5 rfl (lv_at hl 0 rfl) ?_
  refine lv_iload_n hx hb dX6_leg_6 rfl (lv_at hl 1 rfl) ?_
  obtain ⟨r1, e2, hm⟩ := bnd1_some hm
  refine g_calli (w2 := (wd_f3666f k n_t n_text n_readPage n_page n_trial n_book n_kept n_isKept n_seenStation n_seenOther n_seenWide n_seenWas n_sines n_at n_column n_gram n_right n_work (0 : Int32) v_textSize v_place v_stations v_readStations v_doings v_seen v_seed v_wide v_up v_low r_page r_sines)) (va_runV (As := [.int x1]) (rest := []) ⟨hx, hb, hml, hown, hts⟩ (m_X6_noLeg l dC dI k H.size n_t n_text n_readPage n_page n_trial n_book n_kept n_isKept n_seenStation n_seenOther n_seenWide n_seenWas n_sines n_at n_column n_gram n_right n_work (0 : Int32) v_textSize v_place v_stations v_readStations v_doings v_seen v_seed v_wide v_up v_low r_page x1 e2) (cwV 1 hts gX6_leg_X6_noLeg rfl rfl rfl (by decide +kernel) ⟨Nat.le_of_ble_eq_true rfl, Nat.le_of_ble_eq_true rfl⟩) (g_preV hG hP hD hS hA [0, 1] rfl (by decide) (ci := 6) (q0 := 0) rfl rfl) rfl rfl hl.1 rfl (lv_room (Nat.le_of_ble_eq_true rfl)) dX6_leg_7 ⟨Nat.le_of_ble_eq_true rfl, Nat.le_of_ble_eq_true rfl⟩) hP hD hS hA [0, 1] [2] [1, 2, 0] rfl rfl (by decide) (by decide) rfl (by decide) (fun H locs hP hD hS => ?_)
  refine lv_if_eq (tgt := 15) hx hb dX6_leg_10 (by decide) (fun c3 => ?_) (fun c3 => ?_)
  · replace hm := ifp c3 hm
    refine lv_iload_n hx hb dX6_leg_15 rfl (lv_at hl 2 rfl) ?_
    refine g_i2l hx hb dX6_leg_16 ?_
    refine lv_lconst (v := (0 : Int64)) hx hb dX6_leg_17 (by decide) ?_
    refine lv_ldc2 (v := (9 : Int64)) hx hb hown k1 dX6_leg_18 ?_
    obtain ⟨r4, e5, hm⟩ := bnd1_some hm
    refine g_calli (w2 := (wd_f3666f k n_t n_text n_readPage n_page n_trial n_book n_kept n_isKept n_seenStation n_seenOther n_seenWide n_seenWas n_sines n_at n_column n_gram n_right n_work (0 : Int32) v_textSize v_place v_stations v_readStations v_doings v_seen v_seed v_wide v_up v_low r_page r_sines)) (va_runS (As := [.long (Int32.toInt64 x2), .long (0 : Int64), .long (9 : Int64)]) (rest := []) ⟨hx, hb, hml, hown, hts⟩ (m_X6_in l dC dI k H.size  (Int32.toInt64 x2) (0 : Int64) (9 : Int64) e5) (va_cwS 3 hts gX6_leg_X6_in rfl rfl rfl (by decide +kernel) ⟨Nat.le_of_ble_eq_true rfl, Nat.le_of_ble_eq_true rfl⟩) (g_preS hG hP hD hS hA [] rfl (by decide)) rfl rfl hl.1 rfl (lv_room (Nat.le_of_ble_eq_true rfl)) dX6_leg_21 ⟨Nat.le_of_ble_eq_true rfl, Nat.le_of_ble_eq_true rfl⟩) hP hD hS hA [] [0, 1, 2] [0, 1, 2] rfl rfl (by decide) (by decide) rfl (by decide) (fun H locs hP hD hS => ?_)
    refine lv_if_ne (tgt := 30) hx hb dX6_leg_24 (by decide) (fun c6 => ?_) (fun c6 => ?_)
    · replace hm := ifn c6 hm
      refine lv_iload_n hx hb dX6_leg_30 rfl (lv_at hl 2 rfl) ?_
      refine lv_bipush (v := (6 : Int32)) hx hb dX6_leg_31 (by decide) ?_
      refine lv_icmp_ge (tgt := 48) hx hb dX6_leg_33 (by decide) (fun c7 => ?_) (fun c7 => ?_)
      · replace hm := ifp c7 hm
        refine lv_iload_n hx hb dX6_leg_48 rfl (lv_at hl 2 rfl) ?_
        refine lv_bipush (v := (6 : Int32)) hx hb dX6_leg_49 (by decide) ?_
        refine lv_icmp_ne (tgt := 67) hx hb dX6_leg_51 (by decide) (fun c8 => ?_) (fun c8 => ?_)
        · replace hm := ifn c8 hm
          refine lv_aload_n hx hb dX6_leg_67 rfl (lv_at hl 0 rfl) ?_
          refine lv_aload_n hx hb dX6_leg_68 rfl (lv_at hl 0 rfl) ?_
          refine va_get (D := (dC, dI)) (ci := 6) (v := .ref n_page) (C := RX6) (T := TX6) (N := 28) hx hb hts hinX6 hown hG.1 hP 0 rfl rfl 7 (by decide) k2 (fun _ h9 => h9) rfl dX6_leg_69 ?_
          refine lv_iload_n hx hb dX6_leg_72 rfl (lv_at hl 1 rfl) ?_
          refine lv_iload_n hx hb dX6_leg_73 rfl (lv_at hl 2 rfl) ?_
          refine lv_bipush (v := (7 : Int32)) hx hb dX6_leg_74 (by decide) ?_
          refine lv_isub hx hb dX6_leg_76 ?_
          obtain ⟨r9, e10, hm⟩ := bnd1_some hm
          refine g_calli (w2 := (wd_f3666f k n_t n_text n_readPage n_page n_trial n_book n_kept n_isKept n_seenStation n_seenOther n_seenWide n_seenWas n_sines n_at n_column n_gram n_right n_work (0 : Int32) v_textSize v_place v_stations v_readStations v_doings v_seen v_seed v_wide v_up v_low r_page r_sines)) (va_runV (As := [.ref n_page, .int x1, .int (x2 - (7 : Int32))]) (rest := []) ⟨hx, hb, hml, hown, hts⟩ (m_X6_stepOf l dC dI k H.size n_t n_page n_text n_readPage n_page n_trial n_book n_kept n_isKept n_seenStation n_seenOther n_seenWide n_seenWas n_sines n_at n_column n_gram n_right n_work (0 : Int32) v_textSize v_place v_stations v_readStations v_doings v_seen v_seed v_wide v_up v_low r_sines r_page x1 (x2 - (7 : Int32)) e10) (cwV 3 hts gX6_leg_X6_stepOf rfl rfl rfl (by decide +kernel) ⟨Nat.le_of_ble_eq_true rfl, Nat.le_of_ble_eq_true rfl⟩) (g_preV hG hP hD hS hA [0, 2, 1] rfl (by decide) (ci := 6) (q0 := 0) rfl rfl) rfl rfl hl.1 rfl (lv_room (Nat.le_of_ble_eq_true rfl)) dX6_leg_77 ⟨Nat.le_of_ble_eq_true rfl, Nat.le_of_ble_eq_true rfl⟩) hP hD hS hA [0, 2, 1] [] [0, 2, 1] rfl rfl (by decide) (by decide) rfl (by decide) (fun H locs hP hD hS => ?_)
          refine lv_bipush (v := (100 : Int32)) hx hb dX6_leg_80 (by decide) ?_
          refine lv_iadd hx hb dX6_leg_82 ?_
          exact RET _ _ _ _ _ _ dX6_leg_83 hm hP hD hS
        · replace hm := ifp c8 hm
          refine lv_aload_n hx hb dX6_leg_54 rfl (lv_at hl 0 rfl) ?_
          refine va_get (D := (dC, dI)) (ci := 6) (v := .ref n_page) (C := RX6) (T := TX6) (N := 28) hx hb hts hinX6 hown hG.1 hP 0 rfl rfl 7 (by decide) k2 (fun _ h9 => h9) rfl dX6_leg_55 ?_
          refine lv_iconst (v := (1 : Int32)) hx hb dX6_leg_58 (by decide) ?_
          obtain ⟨hi11, hm⟩ := chk_some hm
          refine va_iald hx hb hG.1 hP 1 0 rfl rfl hi11 dX6_leg_59 ?_
          refine lv_iload_n hx hb dX6_leg_60 rfl (lv_at hl 1 rfl) ?_
          refine g_ishr hx hb dX6_leg_61 ?_
          refine lv_iconst (v := (1 : Int32)) hx hb dX6_leg_62 (by decide) ?_
          refine lv_iand hx hb dX6_leg_63 ?_
          refine lv_goto (tgt := 83) hx hb dX6_leg_64 (by decide) ?_
          exact RET _ _ _ _ _ _ dX6_leg_83 hm hP hD hS
      · replace hm := ifn c7 hm
        refine lv_aload_n hx hb dX6_leg_36 rfl (lv_at hl 0 rfl) ?_
        refine va_get (D := (dC, dI)) (ci := 6) (v := .ref n_page) (C := RX6) (T := TX6) (N := 28) hx hb hts hinX6 hown hG.1 hP 0 rfl rfl 7 (by decide) k2 (fun _ h9 => h9) rfl dX6_leg_37 ?_
        refine lv_iload_n hx hb dX6_leg_40 rfl (lv_at hl 1 rfl) ?_
        refine lv_iload_n hx hb dX6_leg_41 rfl (lv_at hl 2 rfl) ?_
        obtain ⟨r12, e13, hm⟩ := bnd1_some hm
        refine g_calli (w2 := (wd_f3666f k n_t n_text n_readPage n_page n_trial n_book n_kept n_isKept n_seenStation n_seenOther n_seenWide n_seenWas n_sines n_at n_column n_gram n_right n_work (0 : Int32) v_textSize v_place v_stations v_readStations v_doings v_seen v_seed v_wide v_up v_low r_page r_sines)) (va_runS (As := [.ref n_page, .int x1, .int x2]) (rest := []) ⟨hx, hb, hml, hown, hts⟩ (m_X6_of l dC dI k H.size n_page r_page x1 x2 e13) (va_cwS 3 hts gX6_leg_X6_of rfl rfl rfl (by decide +kernel) ⟨Nat.le_of_ble_eq_true rfl, Nat.le_of_ble_eq_true rfl⟩) (g_preS hG hP hD hS hA [1] rfl (by decide)) rfl rfl hl.1 rfl (lv_room (Nat.le_of_ble_eq_true rfl)) dX6_leg_42 ⟨Nat.le_of_ble_eq_true rfl, Nat.le_of_ble_eq_true rfl⟩) hP hD hS hA [1] [0, 2] [0, 2, 1] rfl rfl (by decide) (by decide) rfl (by decide) (fun H locs hP hD hS => ?_)
        refine lv_goto (tgt := 83) hx hb dX6_leg_45 (by decide) ?_
        exact RET _ _ _ _ _ _ dX6_leg_83 hm hP hD hS
    · replace hm := ifp c6 hm
      refine lv_bipush (v := (-2 : Int32)) hx hb dX6_leg_27 (by decide) ?_
      exact RET _ _ _ _ _ _ dX6_leg_29 hm hP hD hS
  · replace hm := ifn c3 hm
    refine lv_iconst (v := (-1 : Int32)) hx hb dX6_leg_13 (by decide) ?_
    exact RET _ _ _ _ _ _ dX6_leg_14 hm hP hD hS
set_option maxRecDepth 100000 in
theorem m_X6_leg (l : Launch) (dC : Nat → ClassId) (dI : Nat → Nat → Nat) (k : Nat → ClassId) (sz : Nat) (n_t n_text n_readPage n_page n_trial n_book n_kept n_isKept n_seenStation n_seenOther n_seenWide n_seenWas n_sines n_at n_column n_gram n_right n_work : Nat) (v_thrown : Int32) (v_textSize : Int32) (v_place : Int32) (v_stations : Int32) (v_readStations : Int32) (v_doings : Int32) (v_seen : Int32) (v_seed : Int64) (v_wide : Int32) (v_up : Int64) (v_low : Int64) (r_page : Nat → Int32) (r_sines : Nat → Int32) (x1 : Int32) (x2 : Int32) {o_r : Int32} {o_v_thrown : (Int32)} (hm : f_X6_leg x1 x2 v_thrown r_page r_sines = some (o_r, o_v_thrown)) : Met l yX6_leg wsX6_leg rm_X6_leg (gPre dC dI k [.ref n_t, .int x1, .int x2] sz (wd_f3666f k n_t n_text n_readPage n_page n_trial n_book n_kept n_isKept n_seenStation n_seenOther n_seenWide n_seenWas n_sines n_at n_column n_gram n_right n_work v_thrown v_textSize v_place v_stations v_readStations v_doings v_seen v_seed v_wide v_up v_low r_page r_sines)) (gQI dC dI (va_A (wd_f3666f k n_t n_text n_readPage n_page n_trial n_book n_kept n_isKept n_seenStation n_seenOther n_seenWide n_seenWas n_sines n_at n_column n_gram n_right n_work v_thrown v_textSize v_place v_stations v_readStations v_doings v_seen v_seed v_wide v_up v_low r_page r_sines) sz) o_r (wd_f3666f k n_t n_text n_readPage n_page n_trial n_book n_kept n_isKept n_seenStation n_seenOther n_seenWide n_seenWas n_sines n_at n_column n_gram n_right n_work o_v_thrown v_textSize v_place v_stations v_readStations v_doings v_seen v_seed v_wide v_up v_low r_page r_sines)) 0 0 (va_A (wd_f3666f k n_t n_text n_readPage n_page n_trial n_book n_kept n_isKept n_seenStation n_seenOther n_seenWide n_seenWas n_sines n_at n_column n_gram n_right n_work v_thrown v_textSize v_place v_stations v_readStations v_doings v_seen v_seed v_wide v_up v_low r_page r_sines) sz) := by
  refine g_entry (cc := cX6_leg) (maxL := 3) (ret := (some .int)) (lv := [(0, .ref n_t), (1, .int x1), (2, .int x2)]) (by decide +kernel) rfl (Nat.le_of_ble_eq_true rfl) rfl (fun p e s m below meth c ls hx hb hr hml hts hown hlk hnm hsz hG hA hP hD hS hl => ?_)
  exact k_X6_leg hx hb hml hts hown hG hA n_t n_text n_readPage n_page n_trial n_book n_kept n_isKept n_seenStation n_seenOther n_seenWide n_seenWas n_sines n_at n_column n_gram n_right n_work v_thrown v_textSize v_place v_stations v_readStations v_doings v_seen v_seed v_wide v_up v_low r_page r_sines x1 x2 o_r o_v_thrown (fun pc H locs ls v q_v_thrown hd ho hP hD hS => by cases ho; exact g_ireti hx hb hr hlk hP hD hS hd) s.heap [] ls hl hP hD hS hm
end
section
set_option maxHeartbeats 4000000 in
set_option maxRecDepth 100000 in
theorem k_X6_note {p : Program} {l : Launch} {e : Env} {s : State} {m : MethodId} {args : Array Value} {below : List Frame} {meth : Method} {c : Code} {A : Nat → Prop} {Q : State → Prop} {dC : Nat → ClassId} {dI : Nat → Nat → Nat} {k : Nat → ClassId} (hx : p.tables.exec = Jvm.exec) (hb : c.code = cX6_note) (hml : c.maxLocals = 2) (hts : ∀ w ∈ wsX6_note, w.before args s = true) (hown : s.vm.findClass RX6 = some m.cls) (hG : gK dC dI k A s) (hA : ∀ q : Nat, s.heap.size ≤ q → A q) (F : Nat) (n_t n_text n_readPage n_page n_trial n_book n_kept n_isKept n_seenStation n_seenOther n_seenWide n_seenWas n_sines n_at n_column n_gram n_right n_work : Nat) (v_thrown : Int32) (v_textSize : Int32) (v_place : Int32) (v_stations : Int32) (v_readStations : Int32) (v_doings : Int32) (v_seen : Int32) (v_seed : Int64) (v_wide : Int32) (v_up : Int64) (v_low : Int64) (r_page : Nat → Int32) (r_book : Nat → Int32) (o_v_doings : (Int32)) (o_r_book : (Nat → Int32)) (RET : ∀ (pc : Nat) (H : Heap) (locs : List Loc) (ls : Array Slot) (q_v_doings : Int32) (q_r_book : Nat → Int32), decode cX6_note pc = .ok (.return_, 1) → some (q_v_doings, q_r_book) = some (o_v_doings, o_r_book) → va_P (dC, dI) vwCl (wd_e9dc6f k n_t n_text n_readPage n_page n_trial n_book n_kept n_isKept n_seenStation n_seenOther n_seenWide n_seenWas n_sines n_at n_column n_gram n_right n_work v_thrown v_textSize v_place v_stations v_readStations q_v_doings v_seen v_seed v_wide v_up v_low r_page q_r_book) H → va_D A (wd_e9dc6f k n_t n_text n_readPage n_page n_trial n_book n_kept n_isKept n_seenStation n_seenOther n_seenWide n_seenWas n_sines n_at n_column n_gram n_right n_work v_thrown v_textSize v_place v_stations v_readStations q_v_doings v_seen v_seed v_wide v_up v_low r_page q_r_book) → va_S A s.heap H locs → W p l e rm_X6_note s m args below meth c H locs 0 0 Q (F0 m pc ls [])) (H : Heap) (locs : List Loc) (ls : Array Slot) (hl : lv_has ls 2 [(0, .ref n_t)]) (hP : va_P (dC, dI) vwCl (wd_e9dc6f k n_t n_text n_readPage n_page n_trial n_book n_kept n_isKept n_seenStation n_seenOther n_seenWide n_seenWas n_sines n_at n_column n_gram n_right n_work v_thrown v_textSize v_place v_stations v_readStations v_doings v_seen v_seed v_wide v_up v_low r_page r_book) H) (hD : va_D A (wd_e9dc6f k n_t n_text n_readPage n_page n_trial n_book n_kept n_isKept n_seenStation n_seenOther n_seenWide n_seenWas n_sines n_at n_column n_gram n_right n_work v_thrown v_textSize v_place v_stations v_readStations v_doings v_seen v_seed v_wide v_up v_low r_page r_book)) (hS : va_S A s.heap H locs) (hm : f_X6_note F v_doings r_page r_book = some (o_v_doings, o_r_book)) : W p l e rm_X6_note s m args below meth c H locs 0 0 Q (F0 m 0 ls []) := by
  have hinX6 : ∀ w ∈ u_ws RX6 TX6 28, w ∈ wsX6_note := by decide +kernel
  have k0 := hts (.fieldLink RX6 100 "CaveLegsModel" "doings" "I") (by decide +kernel)
  have k1 := hts (.fieldLink RX6 26 "CaveLegsModel" "book" "[I") (by decide +kernel)
  have k2 := hts (.fieldLink RX6 20 "CaveLegsModel" "page" "[I") (by decide +kernel)
  have L_51 : ∀ (n51 : Nat) (v_doings : Int32) (r_book : Nat → Int32) (x1 : Int32) (H : Heap) (locs : List Loc) (ls : Array Slot), lv_has ls 2 [(0, .ref n_t), (1, .int x1)] → va_P (dC, dI) vwCl (wd_e9dc6f k n_t n_text n_readPage n_page n_trial n_book n_kept n_isKept n_seenStation n_seenOther n_seenWide n_seenWas n_sines n_at n_column n_gram n_right n_work v_thrown v_textSize v_place v_stations v_readStations v_doings v_seen v_seed v_wide v_up v_low r_page r_book) H → va_D A (wd_e9dc6f k n_t n_text n_readPage n_page n_trial n_book n_kept n_isKept n_seenStation n_seenOther n_seenWide n_seenWas n_sines n_at n_column n_gram n_right n_work v_thrown v_textSize v_place v_stations v_readStations v_doings v_seen v_seed v_wide v_up v_low r_page r_book) → va_S A s.heap H locs → f_X6_note_L51 F r_page n51 v_doings r_book x1 = some (o_v_doings, o_r_book) → W p l e rm_X6_note s m args below meth c H locs 0 0 Q (F0 m 51 ls []) := by
    intro n51
    induction n51 with
    | zero =>
      intro v_doings r_book x1 H locs ls hl hP hD hS hm
      exact non_some hm
    | succ n51 ih51 =>
      intro v_doings r_book x1 H locs ls hl hP hD hS hm
      replace hm : f_X6_note_B51 F r_page (f_X6_note_L51 F r_page n51) v_doings r_book x1 = some (o_v_doings, o_r_book) := hm
      unfold f_X6_note_B51 at hm
      refine lv_iload_n hx hb dX6_note_51 rfl (lv_at hl 1 rfl) ?_
      refine lv_bipush (v := (50 : Int32)) hx hb dX6_note_52 (by decide) ?_
      refine lv_icmp_ge (tgt := 83) hx hb dX6_note_54 (by decide) (fun c1 => ?_) (fun c1 => ?_)
      · replace hm := ifp c1 hm
        refine lv_aload_n hx hb dX6_note_83 rfl (lv_at hl 0 rfl) ?_
        refine lv_dup hx hb dX6_note_84 rfl ?_
        refine va_get (D := (dC, dI)) (ci := 6) (v := .int v_doings) (C := RX6) (T := TX6) (N := 28) hx hb hts hinX6 hown hG.1 hP 0 rfl rfl 10 (by decide) k0 (fun _ h9 => h9) rfl dX6_note_85 ?_
        refine lv_iconst (v := (1 : Int32)) hx hb dX6_note_88 (by decide) ?_
        refine lv_iadd hx hb dX6_note_89 ?_
        refine lv_topi (fun t2 et2 => ?_)
        replace hm := (nmd_eq et2).trans hm
        refine va_put (D := (dC, dI)) (ci := 6) (v := .int t2) (ty := .int) (C := RX6) (T := TX6) (N := 28) hx hb hts hinX6 tyX6 tyX6_ok nmX6 hown hG.1 hP hD hS 0 rfl rfl 10 (by decide) k0 (fun _ h9 => h9) rfl (by decide +kernel) rfl rfl (Nat.le_of_ble_eq_true rfl) dX6_note_90 (fun H locs hP hD hS => ?_)
        replace hP : va_P (dC, dI) vwCl (wd_e9dc6f k n_t n_text n_readPage n_page n_trial n_book n_kept n_isKept n_seenStation n_seenOther n_seenWide n_seenWas n_sines n_at n_column n_gram n_right n_work v_thrown v_textSize v_place v_stations v_readStations t2 v_seen v_seed v_wide v_up v_low r_page r_book) H := hP
        replace hD : va_D A (wd_e9dc6f k n_t n_text n_readPage n_page n_trial n_book n_kept n_isKept n_seenStation n_seenOther n_seenWide n_seenWas n_sines n_at n_column n_gram n_right n_work v_thrown v_textSize v_place v_stations v_readStations t2 v_seen v_seed v_wide v_up v_low r_page r_book) := hD
        exact RET _ _ _ _ _ _ dX6_note_93 hm hP hD hS
      · replace hm := ifn c1 hm
        refine lv_aload_n hx hb dX6_note_57 rfl (lv_at hl 0 rfl) ?_
        refine va_get (D := (dC, dI)) (ci := 6) (v := .ref n_book) (C := RX6) (T := TX6) (N := 28) hx hb hts hinX6 hown hG.1 hP 0 rfl rfl 9 (by decide) k1 (fun _ h9 => h9) rfl dX6_note_58 ?_
        refine lv_bipush (v := (50 : Int32)) hx hb dX6_note_61 (by decide) ?_
        refine lv_aload_n hx hb dX6_note_63 rfl (lv_at hl 0 rfl) ?_
        refine va_get (D := (dC, dI)) (ci := 6) (v := .int v_doings) (C := RX6) (T := TX6) (N := 28) hx hb hts hinX6 hown hG.1 hP 0 rfl rfl 10 (by decide) k0 (fun _ h9 => h9) rfl dX6_note_64 ?_
        refine lv_imul hx hb dX6_note_67 ?_
        refine lv_iload_n hx hb dX6_note_68 rfl (lv_at hl 1 rfl) ?_
        refine lv_iadd hx hb dX6_note_69 ?_
        refine lv_aload_n hx hb dX6_note_70 rfl (lv_at hl 0 rfl) ?_
        refine va_get (D := (dC, dI)) (ci := 6) (v := .ref n_page) (C := RX6) (T := TX6) (N := 28) hx hb hts hinX6 hown hG.1 hP 0 rfl rfl 7 (by decide) k2 (fun _ h9 => h9) rfl dX6_note_71 ?_
        refine lv_iload_n hx hb dX6_note_74 rfl (lv_at hl 1 rfl) ?_
        obtain ⟨hi3, hm⟩ := chk_some hm
        refine va_iald hx hb hG.1 hP 1 0 rfl rfl hi3 dX6_note_75 ?_
        refine lv_topi (fun t4 et4 => ?_)
        replace hm := (nmd_eq et4).trans hm
        obtain ⟨hi5, hm⟩ := chk_some hm
        refine va_iast hx hb hG.1 hP hD hS 2 0 rfl rfl hi5 dX6_note_76 (fun H locs hP hD hS => ?_)
        replace hP : va_P (dC, dI) vwCl (wd_e9dc6f k n_t n_text n_readPage n_page n_trial n_book n_kept n_isKept n_seenStation n_seenOther n_seenWide n_seenWas n_sines n_at n_column n_gram n_right n_work v_thrown v_textSize v_place v_stations v_readStations v_doings v_seen v_seed v_wide v_up v_low r_page (upd r_book (Int32.toNatClampNeg (((50 : Int32) * v_doings) + x1)) t4)) H := hP
        replace hD : va_D A (wd_e9dc6f k n_t n_text n_readPage n_page n_trial n_book n_kept n_isKept n_seenStation n_seenOther n_seenWide n_seenWas n_sines n_at n_column n_gram n_right n_work v_thrown v_textSize v_place v_stations v_readStations v_doings v_seen v_seed v_wide v_up v_low r_page (upd r_book (Int32.toNatClampNeg (((50 : Int32) * v_doings) + x1)) t4)) := hD
        obtain ⟨t6, et6⟩ : ∃ y : Int32, y = x1 + (1 : Int32) := ⟨_, rfl⟩
        replace hm := (nmd_eq et6).trans hm
        refine lv_iinc (v := t6) (lv' := [(1, .int t6), (0, .ref n_t)]) hx hb dX6_note_77 hl (k := 1) rfl (by rw [et6]; rfl) (by decide) rfl (fun ls hl => ?_)
        refine lv_goto (tgt := 51) hx hb dX6_note_80 (by decide) ?_
        exact ih51 _ _ _ _ _ _ (lv_sub hl [1, 0] rfl) hP hD hS hm
  have J_49 : ∀ (v_doings : Int32) (r_book : Nat → Int32) (H : Heap) (locs : List Loc) (ls : Array Slot), lv_has ls 2 [(0, .ref n_t)] → va_P (dC, dI) vwCl (wd_e9dc6f k n_t n_text n_readPage n_page n_trial n_book n_kept n_isKept n_seenStation n_seenOther n_seenWide n_seenWas n_sines n_at n_column n_gram n_right n_work v_thrown v_textSize v_place v_stations v_readStations v_doings v_seen v_seed v_wide v_up v_low r_page r_book) H → va_D A (wd_e9dc6f k n_t n_text n_readPage n_page n_trial n_book n_kept n_isKept n_seenStation n_seenOther n_seenWide n_seenWas n_sines n_at n_column n_gram n_right n_work v_thrown v_textSize v_place v_stations v_readStations v_doings v_seen v_seed v_wide v_up v_low r_page r_book) → va_S A s.heap H locs → f_X6_note_J49 F r_page v_doings r_book = some (o_v_doings, o_r_book) → W p l e rm_X6_note s m args below meth c H locs 0 0 Q (F0 m 49 ls []) := by
    intro v_doings r_book H locs ls hl hP hD hS hm
    unfold f_X6_note_J49 at hm
    refine lv_iconst (v := (0 : Int32)) hx hb dX6_note_49 (by decide) ?_
    refine lv_istore_n (lv' := [(1, .int (0 : Int32)), (0, .ref n_t)]) hx hb dX6_note_50 rfl hl (by decide) rfl (fun ls hl => ?_)
    exact L_51 F _ _ _ _ _ _ (lv_sub hl [1, 0] rfl) hP hD hS hm
  have L_11 : ∀ (n11 : Nat) (v_doings : Int32) (r_book : Nat → Int32) (x1 : Int32) (H : Heap) (locs : List Loc) (ls : Array Slot), lv_has ls 2 [(0, .ref n_t), (1, .int x1)] → va_P (dC, dI) vwCl (wd_e9dc6f k n_t n_text n_readPage n_page n_trial n_book n_kept n_isKept n_seenStation n_seenOther n_seenWide n_seenWas n_sines n_at n_column n_gram n_right n_work v_thrown v_textSize v_place v_stations v_readStations v_doings v_seen v_seed v_wide v_up v_low r_page r_book) H → va_D A (wd_e9dc6f k n_t n_text n_readPage n_page n_trial n_book n_kept n_isKept n_seenStation n_seenOther n_seenWide n_seenWas n_sines n_at n_column n_gram n_right n_work v_thrown v_textSize v_place v_stations v_readStations v_doings v_seen v_seed v_wide v_up v_low r_page r_book) → va_S A s.heap H locs → f_X6_note_L11 F r_page n11 v_doings r_book x1 = some (o_v_doings, o_r_book) → W p l e rm_X6_note s m args below meth c H locs 0 0 Q (F0 m 11 ls []) := by
    intro n11
    induction n11 with
    | zero =>
      intro v_doings r_book x1 H locs ls hl hP hD hS hm
      exact non_some hm
    | succ n11 ih11 =>
      intro v_doings r_book x1 H locs ls hl hP hD hS hm
      replace hm : f_X6_note_B11 F r_page (f_X6_note_L11 F r_page n11) v_doings r_book x1 = some (o_v_doings, o_r_book) := hm
      unfold f_X6_note_B11 at hm
      refine lv_iload_n hx hb dX6_note_11 rfl (lv_at hl 1 rfl) ?_
      refine lv_sipush (v := (650 : Int32)) hx hb dX6_note_12 (by decide) ?_
      refine lv_icmp_ge (tgt := 39) hx hb dX6_note_15 (by decide) (fun c7 => ?_) (fun c7 => ?_)
      · replace hm := ifp c7 hm
        refine lv_aload_n hx hb dX6_note_39 rfl (lv_at hl 0 rfl) ?_
        refine lv_dup hx hb dX6_note_40 rfl ?_
        refine va_get (D := (dC, dI)) (ci := 6) (v := .int v_doings) (C := RX6) (T := TX6) (N := 28) hx hb hts hinX6 hown hG.1 hP 0 rfl rfl 10 (by decide) k0 (fun _ h9 => h9) rfl dX6_note_41 ?_
        refine lv_iconst (v := (1 : Int32)) hx hb dX6_note_44 (by decide) ?_
        refine lv_isub hx hb dX6_note_45 ?_
        refine lv_topi (fun t8 et8 => ?_)
        replace hm := (nmd_eq et8).trans hm
        refine va_put (D := (dC, dI)) (ci := 6) (v := .int t8) (ty := .int) (C := RX6) (T := TX6) (N := 28) hx hb hts hinX6 tyX6 tyX6_ok nmX6 hown hG.1 hP hD hS 0 rfl rfl 10 (by decide) k0 (fun _ h9 => h9) rfl (by decide +kernel) rfl rfl (Nat.le_of_ble_eq_true rfl) dX6_note_46 (fun H locs hP hD hS => ?_)
        replace hP : va_P (dC, dI) vwCl (wd_e9dc6f k n_t n_text n_readPage n_page n_trial n_book n_kept n_isKept n_seenStation n_seenOther n_seenWide n_seenWas n_sines n_at n_column n_gram n_right n_work v_thrown v_textSize v_place v_stations v_readStations t8 v_seen v_seed v_wide v_up v_low r_page r_book) H := hP
        replace hD : va_D A (wd_e9dc6f k n_t n_text n_readPage n_page n_trial n_book n_kept n_isKept n_seenStation n_seenOther n_seenWide n_seenWas n_sines n_at n_column n_gram n_right n_work v_thrown v_textSize v_place v_stations v_readStations t8 v_seen v_seed v_wide v_up v_low r_page r_book) := hD
        exact J_49 _ _ _ _ _ (lv_sub hl [0] rfl) hP hD hS hm
      · replace hm := ifn c7 hm
        refine lv_aload_n hx hb dX6_note_18 rfl (lv_at hl 0 rfl) ?_
        refine va_get (D := (dC, dI)) (ci := 6) (v := .ref n_book) (C := RX6) (T := TX6) (N := 28) hx hb hts hinX6 hown hG.1 hP 0 rfl rfl 9 (by decide) k1 (fun _ h9 => h9) rfl dX6_note_19 ?_
        refine lv_iload_n hx hb dX6_note_22 rfl (lv_at hl 1 rfl) ?_
        refine lv_aload_n hx hb dX6_note_23 rfl (lv_at hl 0 rfl) ?_
        refine va_get (D := (dC, dI)) (ci := 6) (v := .ref n_book) (C := RX6) (T := TX6) (N := 28) hx hb hts hinX6 hown hG.1 hP 0 rfl rfl 9 (by decide) k1 (fun _ h9 => h9) rfl dX6_note_24 ?_
        refine lv_iload_n hx hb dX6_note_27 rfl (lv_at hl 1 rfl) ?_
        refine lv_bipush (v := (50 : Int32)) hx hb dX6_note_28 (by decide) ?_
        refine lv_iadd hx hb dX6_note_30 ?_
        obtain ⟨hi9, hm⟩ := chk_some hm
        refine va_iald hx hb hG.1 hP 2 0 rfl rfl hi9 dX6_note_31 ?_
        refine lv_topi (fun t10 et10 => ?_)
        replace hm := (nmd_eq et10).trans hm
        obtain ⟨hi11, hm⟩ := chk_some hm
        refine va_iast hx hb hG.1 hP hD hS 2 0 rfl rfl hi11 dX6_note_32 (fun H locs hP hD hS => ?_)
        replace hP : va_P (dC, dI) vwCl (wd_e9dc6f k n_t n_text n_readPage n_page n_trial n_book n_kept n_isKept n_seenStation n_seenOther n_seenWide n_seenWas n_sines n_at n_column n_gram n_right n_work v_thrown v_textSize v_place v_stations v_readStations v_doings v_seen v_seed v_wide v_up v_low r_page (upd r_book (Int32.toNatClampNeg x1) t10)) H := hP
        replace hD : va_D A (wd_e9dc6f k n_t n_text n_readPage n_page n_trial n_book n_kept n_isKept n_seenStation n_seenOther n_seenWide n_seenWas n_sines n_at n_column n_gram n_right n_work v_thrown v_textSize v_place v_stations v_readStations v_doings v_seen v_seed v_wide v_up v_low r_page (upd r_book (Int32.toNatClampNeg x1) t10)) := hD
        obtain ⟨t12, et12⟩ : ∃ y : Int32, y = x1 + (1 : Int32) := ⟨_, rfl⟩
        replace hm := (nmd_eq et12).trans hm
        refine lv_iinc (v := t12) (lv' := [(1, .int t12), (0, .ref n_t)]) hx hb dX6_note_33 hl (k := 1) rfl (by rw [et12]; rfl) (by decide) rfl (fun ls hl => ?_)
        refine lv_goto (tgt := 11) hx hb dX6_note_36 (by decide) ?_
        exact ih11 _ _ _ _ _ _ (lv_sub hl [1, 0] rfl) hP hD hS hm
  unfold f_X6_note at hm
  refine lv_aload_n hx hb dX6_note_0 rfl (lv_at hl 0 rfl) ?_
  refine va_get (D := (dC, dI)) (ci := 6) (v := .int v_doings) (C := RX6) (T := TX6) (N := 28) hx hb hts hinX6 hown hG.1 hP 0 rfl rfl 10 (by decide) k0 (fun _ h9 => h9) rfl dX6_note_1 ?_
  refine lv_bipush (v := (14 : Int32)) hx hb dX6_note_4 (by decide) ?_
  refine lv_icmp_ne (tgt := 49) hx hb dX6_note_6 (by decide) (fun c13 => ?_) (fun c13 => ?_)
  · replace hm := ifn c13 hm
    exact J_49 _ _ _ _ _ (lv_sub hl [0] rfl) hP hD hS hm
  · replace hm := ifp c13 hm
    refine lv_iconst (v := (0 : Int32)) hx hb dX6_note_9 (by decide) ?_
    refine lv_istore_n (lv' := [(1, .int (0 : Int32)), (0, .ref n_t)]) hx hb dX6_note_10 rfl hl (by decide) rfl (fun ls hl => ?_)
    exact L_11 F _ _ _ _ _ _ (lv_sub hl [1, 0] rfl) hP hD hS hm
set_option maxRecDepth 100000 in
theorem m_X6_note (l : Launch) (dC : Nat → ClassId) (dI : Nat → Nat → Nat) (k : Nat → ClassId) (F : Nat) (sz : Nat) (n_t n_text n_readPage n_page n_trial n_book n_kept n_isKept n_seenStation n_seenOther n_seenWide n_seenWas n_sines n_at n_column n_gram n_right n_work : Nat) (v_thrown : Int32) (v_textSize : Int32) (v_place : Int32) (v_stations : Int32) (v_readStations : Int32) (v_doings : Int32) (v_seen : Int32) (v_seed : Int64) (v_wide : Int32) (v_up : Int64) (v_low : Int64) (r_page : Nat → Int32) (r_book : Nat → Int32) {o_v_doings : (Int32)} {o_r_book : (Nat → Int32)} (hm : f_X6_note F v_doings r_page r_book = some (o_v_doings, o_r_book)) : Met l yX6_note wsX6_note rm_X6_note (gPre dC dI k [.ref n_t] sz (wd_e9dc6f k n_t n_text n_readPage n_page n_trial n_book n_kept n_isKept n_seenStation n_seenOther n_seenWide n_seenWas n_sines n_at n_column n_gram n_right n_work v_thrown v_textSize v_place v_stations v_readStations v_doings v_seen v_seed v_wide v_up v_low r_page r_book)) (gQV dC dI (va_A (wd_e9dc6f k n_t n_text n_readPage n_page n_trial n_book n_kept n_isKept n_seenStation n_seenOther n_seenWide n_seenWas n_sines n_at n_column n_gram n_right n_work v_thrown v_textSize v_place v_stations v_readStations v_doings v_seen v_seed v_wide v_up v_low r_page r_book) sz) (wd_e9dc6f k n_t n_text n_readPage n_page n_trial n_book n_kept n_isKept n_seenStation n_seenOther n_seenWide n_seenWas n_sines n_at n_column n_gram n_right n_work v_thrown v_textSize v_place v_stations v_readStations o_v_doings v_seen v_seed v_wide v_up v_low r_page o_r_book)) 0 0 (va_A (wd_e9dc6f k n_t n_text n_readPage n_page n_trial n_book n_kept n_isKept n_seenStation n_seenOther n_seenWide n_seenWas n_sines n_at n_column n_gram n_right n_work v_thrown v_textSize v_place v_stations v_readStations v_doings v_seen v_seed v_wide v_up v_low r_page r_book) sz) := by
  refine g_entry (cc := cX6_note) (maxL := 2) (ret := none) (lv := [(0, .ref n_t)]) (by decide +kernel) rfl (Nat.le_of_ble_eq_true rfl) rfl (fun p e s m below meth c ls hx hb hr hml hts hown hlk hnm hsz hG hA hP hD hS hl => ?_)
  exact k_X6_note hx hb hml hts hown hG hA F n_t n_text n_readPage n_page n_trial n_book n_kept n_isKept n_seenStation n_seenOther n_seenWide n_seenWas n_sines n_at n_column n_gram n_right n_work v_thrown v_textSize v_place v_stations v_readStations v_doings v_seen v_seed v_wide v_up v_low r_page r_book o_v_doings o_r_book (fun pc H locs ls q_v_doings q_r_book hd ho hP hD hS => by cases ho; exact g_vret hx hb hr hlk hP hD hS hd) s.heap [] ls hl hP hD hS hm
end
