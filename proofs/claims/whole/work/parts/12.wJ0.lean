section
set_option maxHeartbeats 4000000 in
set_option maxRecDepth 100000 in
theorem k_X0_has {p : Program} {l : Launch} {e : Env} {s : State} {m : MethodId} {args : Array Value} {below : List Frame} {meth : Method} {c : Code} {A : Nat → Prop} {Q : State → Prop} {dC : Nat → ClassId} {dI : Nat → Nat → Nat} {k : Nat → ClassId} (hx : p.tables.exec = Jvm.exec) (hb : c.code = cX0_has) (hml : c.maxLocals = 2) (hts : ∀ w ∈ wsX0_has, w.before args s = true) (hown : s.vm.findClass RX0 = some m.cls) (hG : gK dC dI k A s) (hA : ∀ q : Nat, s.heap.size ≤ q → A q) (n_t n_rows : Nat) (v_size : Int32) (v_stations : Int32) (x1 : Int32) (o_r : Int32) (RET : ∀ (pc : Nat) (H : Heap) (locs : List Loc) (ls : Array Slot) (v : Int32), decode cX0_has pc = .ok (.ireturn, 1) → some v = some o_r → narrow .boolean (.int v) = .int v → va_P (dC, dI) vwCl (wd_9ad9d1 k n_t n_rows v_size v_stations) H → va_D A (wd_9ad9d1 k n_t n_rows v_size v_stations) → va_S A s.heap H locs → W p l e rm_X0_has s m args below meth c H locs 0 0 Q (F0 m pc ls [.int v])) (H : Heap) (locs : List Loc) (ls : Array Slot) (hl : lv_has ls 2 [(0, .ref n_t), (1, .int x1)]) (hP : va_P (dC, dI) vwCl (wd_9ad9d1 k n_t n_rows v_size v_stations) H) (hD : va_D A (wd_9ad9d1 k n_t n_rows v_size v_stations)) (hS : va_S A s.heap H locs) (hm : f_X0_has x1 v_size = some o_r) : W p l e rm_X0_has s m args below meth c H locs 0 0 Q (F0 m 0 ls []) := by
  have hinX0 : ∀ w ∈ u_ws RX0 TX0 3, w ∈ wsX0_has := by decide +kernel
  have k0 := hts (.fieldLink RX0 19 "CaveLegs$Legs" "size" "I") (by decide +kernel)
  unfold f_X0_has at hm
  refine lv_iload_n hx hb dX0_has_0 rfl (lv_at hl 1 rfl) ?_
  refine lv_if_lt (tgt := 16) hx hb dX0_has_1 (by decide) (fun c1 => ?_) (fun c1 => ?_)
  · replace hm := ifp c1 hm
    refine lv_iconst (v := (0 : Int32)) hx hb dX0_has_16 (by decide) ?_
    exact RET _ _ _ _ _ dX0_has_17 hm (by decide +kernel) hP hD hS
  · replace hm := ifn c1 hm
    refine lv_iload_n hx hb dX0_has_4 rfl (lv_at hl 1 rfl) ?_
    refine lv_aload_n hx hb dX0_has_5 rfl (lv_at hl 0 rfl) ?_
    refine va_get (D := (dC, dI)) (ci := 0) (v := .int v_size) (C := RX0) (T := TX0) (N := 3) hx hb hts hinX0 hown hG.1 hP 0 rfl rfl 1 (by decide) k0 (fun _ h9 => h9) rfl dX0_has_6 ?_
    refine lv_icmp_ge (tgt := 16) hx hb dX0_has_9 (by decide) (fun c2 => ?_) (fun c2 => ?_)
    · replace hm := ifp c2 hm
      refine lv_iconst (v := (0 : Int32)) hx hb dX0_has_16 (by decide) ?_
      exact RET _ _ _ _ _ dX0_has_17 hm (by decide +kernel) hP hD hS
    · replace hm := ifn c2 hm
      refine lv_iconst (v := (1 : Int32)) hx hb dX0_has_12 (by decide) ?_
      refine lv_goto (tgt := 17) hx hb dX0_has_13 (by decide) ?_
      exact RET _ _ _ _ _ dX0_has_17 hm (by decide +kernel) hP hD hS
set_option maxRecDepth 100000 in
theorem m_X0_has (l : Launch) (dC : Nat → ClassId) (dI : Nat → Nat → Nat) (k : Nat → ClassId) (sz : Nat) (n_t n_rows : Nat) (v_size : Int32) (v_stations : Int32) (x1 : Int32) {o_r : Int32} (hm : f_X0_has x1 v_size = some o_r) : Met l yX0_has wsX0_has rm_X0_has (gPre dC dI k [.ref n_t, .int x1] sz (wd_9ad9d1 k n_t n_rows v_size v_stations)) (gQI dC dI (va_A (wd_9ad9d1 k n_t n_rows v_size v_stations) sz) o_r (wd_9ad9d1 k n_t n_rows v_size v_stations)) 0 0 (va_A (wd_9ad9d1 k n_t n_rows v_size v_stations) sz) := by
  refine g_entry (cc := cX0_has) (maxL := 2) (ret := (some .boolean)) (lv := [(0, .ref n_t), (1, .int x1)]) (by decide +kernel) rfl (Nat.le_of_ble_eq_true rfl) rfl (fun p e s m below meth c ls hx hb hr hml hts hown hlk hnm hsz hG hA hP hD hS hl => ?_)
  exact k_X0_has hx hb hml hts hown hG hA n_t n_rows v_size v_stations x1 o_r (fun pc H locs ls v hd ho hz hP hD hS => by cases ho; exact g_iretz hx hb hr hlk hP hD hS hz hd) s.heap [] ls hl hP hD hS hm
end
section
set_option maxHeartbeats 4000000 in
set_option maxRecDepth 100000 in
theorem k_X0_hasStation {p : Program} {l : Launch} {e : Env} {s : State} {m : MethodId} {args : Array Value} {below : List Frame} {meth : Method} {c : Code} {A : Nat → Prop} {Q : State → Prop} {dC : Nat → ClassId} {dI : Nat → Nat → Nat} {k : Nat → ClassId} (hx : p.tables.exec = Jvm.exec) (hb : c.code = cX0_hasStation) (hml : c.maxLocals = 2) (hts : ∀ w ∈ wsX0_hasStation, w.before args s = true) (hown : s.vm.findClass RX0 = some m.cls) (hG : gK dC dI k A s) (hA : ∀ q : Nat, s.heap.size ≤ q → A q) (n_t n_rows : Nat) (v_size : Int32) (v_stations : Int32) (x1 : Int32) (o_r : Int32) (RET : ∀ (pc : Nat) (H : Heap) (locs : List Loc) (ls : Array Slot) (v : Int32), decode cX0_hasStation pc = .ok (.ireturn, 1) → some v = some o_r → narrow .boolean (.int v) = .int v → va_P (dC, dI) vwCl (wd_9ad9d1 k n_t n_rows v_size v_stations) H → va_D A (wd_9ad9d1 k n_t n_rows v_size v_stations) → va_S A s.heap H locs → W p l e rm_X0_hasStation s m args below meth c H locs 0 0 Q (F0 m pc ls [.int v])) (H : Heap) (locs : List Loc) (ls : Array Slot) (hl : lv_has ls 2 [(0, .ref n_t), (1, .int x1)]) (hP : va_P (dC, dI) vwCl (wd_9ad9d1 k n_t n_rows v_size v_stations) H) (hD : va_D A (wd_9ad9d1 k n_t n_rows v_size v_stations)) (hS : va_S A s.heap H locs) (hm : f_X0_hasStation x1 v_stations = some o_r) : W p l e rm_X0_hasStation s m args below meth c H locs 0 0 Q (F0 m 0 ls []) := by
  have hinX0 : ∀ w ∈ u_ws RX0 TX0 3, w ∈ wsX0_hasStation := by decide +kernel
  have k0 := hts (.fieldLink RX0 15 "CaveLegs$Legs" "stations" "I") (by decide +kernel)
  unfold f_X0_hasStation at hm
  refine lv_iload_n hx hb dX0_hasStation_0 rfl (lv_at hl 1 rfl) ?_
  refine lv_if_lt (tgt := 16) hx hb dX0_hasStation_1 (by decide) (fun c1 => ?_) (fun c1 => ?_)
  · replace hm := ifp c1 hm
    refine lv_iconst (v := (0 : Int32)) hx hb dX0_hasStation_16 (by decide) ?_
    exact RET _ _ _ _ _ dX0_hasStation_17 hm (by decide +kernel) hP hD hS
  · replace hm := ifn c1 hm
    refine lv_iload_n hx hb dX0_hasStation_4 rfl (lv_at hl 1 rfl) ?_
    refine lv_aload_n hx hb dX0_hasStation_5 rfl (lv_at hl 0 rfl) ?_
    refine va_get (D := (dC, dI)) (ci := 0) (v := .int v_stations) (C := RX0) (T := TX0) (N := 3) hx hb hts hinX0 hown hG.1 hP 0 rfl rfl 2 (by decide) k0 (fun _ h9 => h9) rfl dX0_hasStation_6 ?_
    refine lv_icmp_ge (tgt := 16) hx hb dX0_hasStation_9 (by decide) (fun c2 => ?_) (fun c2 => ?_)
    · replace hm := ifp c2 hm
      refine lv_iconst (v := (0 : Int32)) hx hb dX0_hasStation_16 (by decide) ?_
      exact RET _ _ _ _ _ dX0_hasStation_17 hm (by decide +kernel) hP hD hS
    · replace hm := ifn c2 hm
      refine lv_iconst (v := (1 : Int32)) hx hb dX0_hasStation_12 (by decide) ?_
      refine lv_goto (tgt := 17) hx hb dX0_hasStation_13 (by decide) ?_
      exact RET _ _ _ _ _ dX0_hasStation_17 hm (by decide +kernel) hP hD hS
set_option maxRecDepth 100000 in
theorem m_X0_hasStation (l : Launch) (dC : Nat → ClassId) (dI : Nat → Nat → Nat) (k : Nat → ClassId) (sz : Nat) (n_t n_rows : Nat) (v_size : Int32) (v_stations : Int32) (x1 : Int32) {o_r : Int32} (hm : f_X0_hasStation x1 v_stations = some o_r) : Met l yX0_hasStation wsX0_hasStation rm_X0_hasStation (gPre dC dI k [.ref n_t, .int x1] sz (wd_9ad9d1 k n_t n_rows v_size v_stations)) (gQI dC dI (va_A (wd_9ad9d1 k n_t n_rows v_size v_stations) sz) o_r (wd_9ad9d1 k n_t n_rows v_size v_stations)) 0 0 (va_A (wd_9ad9d1 k n_t n_rows v_size v_stations) sz) := by
  refine g_entry (cc := cX0_hasStation) (maxL := 2) (ret := (some .boolean)) (lv := [(0, .ref n_t), (1, .int x1)]) (by decide +kernel) rfl (Nat.le_of_ble_eq_true rfl) rfl (fun p e s m below meth c ls hx hb hr hml hts hown hlk hnm hsz hG hA hP hD hS hl => ?_)
  exact k_X0_hasStation hx hb hml hts hown hG hA n_t n_rows v_size v_stations x1 o_r (fun pc H locs ls v hd ho hz hP hD hS => by cases ho; exact g_iretz hx hb hr hlk hP hD hS hz hd) s.heap [] ls hl hP hD hS hm
end
section
set_option maxHeartbeats 4000000 in
set_option maxRecDepth 100000 in
theorem k_X0_get {p : Program} {l : Launch} {e : Env} {s : State} {m : MethodId} {args : Array Value} {below : List Frame} {meth : Method} {c : Code} {A : Nat → Prop} {Q : State → Prop} {dC : Nat → ClassId} {dI : Nat → Nat → Nat} {k : Nat → ClassId} (hx : p.tables.exec = Jvm.exec) (hb : c.code = cX0_get) (hml : c.maxLocals = 3) (hts : ∀ w ∈ wsX0_get, w.before args s = true) (hown : s.vm.findClass RX0 = some m.cls) (hG : gK dC dI k A s) (hA : ∀ q : Nat, s.heap.size ≤ q → A q) (n_t n_rows : Nat) (v_size : Int32) (v_stations : Int32) (r_rows : Nat → Int32) (x1 : Int32) (x2 : Int32) (o_r : Int32) (RET : ∀ (pc : Nat) (H : Heap) (locs : List Loc) (ls : Array Slot) (v : Int32), decode cX0_get pc = .ok (.ireturn, 1) → some v = some o_r → va_P (dC, dI) vwCl (wd_04c632 k n_t n_rows v_size v_stations r_rows) H → va_D A (wd_04c632 k n_t n_rows v_size v_stations r_rows) → va_S A s.heap H locs → W p l e rm_X0_get s m args below meth c H locs 0 0 Q (F0 m pc ls [.int v])) (H : Heap) (locs : List Loc) (ls : Array Slot) (hl : lv_has ls 3 [(0, .ref n_t), (1, .int x1), (2, .int x2)]) (hP : va_P (dC, dI) vwCl (wd_04c632 k n_t n_rows v_size v_stations r_rows) H) (hD : va_D A (wd_04c632 k n_t n_rows v_size v_stations r_rows)) (hS : va_S A s.heap H locs) (hm : f_X0_get x1 x2 r_rows = some o_r) : W p l e rm_X0_get s m args below meth c H locs 0 0 Q (F0 m 0 ls []) := by
  have hinX0 : ∀ w ∈ u_ws RX0 TX0 3, w ∈ wsX0_get := by decide +kernel
  have k0 := hts (.fieldLink RX0 11 "CaveLegs$Legs" "rows" "[I") (by decide +kernel)
  unfold f_X0_get at hm
  refine lv_iload_n hx hb dX0_get_0 rfl (lv_at hl 1 rfl) ?_
  refine lv_if_lt (tgt := 20) hx hb dX0_get_1 (by decide) (fun c1 => ?_) (fun c1 => ?_)
  · replace hm := ifp c1 hm
    refine lv_iconst (v := (0 : Int32)) hx hb dX0_get_20 (by decide) ?_
    exact RET _ _ _ _ _ dX0_get_21 hm hP hD hS
  · replace hm := ifn c1 hm
    refine lv_iload_n hx hb dX0_get_4 rfl (lv_at hl 1 rfl) ?_
    refine lv_bipush (v := (8 : Int32)) hx hb dX0_get_5 (by decide) ?_
    refine lv_icmp_ge (tgt := 20) hx hb dX0_get_7 (by decide) (fun c2 => ?_) (fun c2 => ?_)
    · replace hm := ifp c2 hm
      refine lv_iconst (v := (0 : Int32)) hx hb dX0_get_20 (by decide) ?_
      exact RET _ _ _ _ _ dX0_get_21 hm hP hD hS
    · replace hm := ifn c2 hm
      refine lv_iload_n hx hb dX0_get_10 rfl (lv_at hl 2 rfl) ?_
      refine lv_if_lt (tgt := 20) hx hb dX0_get_11 (by decide) (fun c3 => ?_) (fun c3 => ?_)
      · replace hm := ifp c3 hm
        refine lv_iconst (v := (0 : Int32)) hx hb dX0_get_20 (by decide) ?_
        exact RET _ _ _ _ _ dX0_get_21 hm hP hD hS
      · replace hm := ifn c3 hm
        refine lv_iload_n hx hb dX0_get_14 rfl (lv_at hl 2 rfl) ?_
        refine lv_bipush (v := (8 : Int32)) hx hb dX0_get_15 (by decide) ?_
        refine lv_icmp_lt (tgt := 22) hx hb dX0_get_17 (by decide) (fun c4 => ?_) (fun c4 => ?_)
        · replace hm := ifp c4 hm
          refine lv_aload_n hx hb dX0_get_22 rfl (lv_at hl 0 rfl) ?_
          refine va_get (D := (dC, dI)) (ci := 0) (v := .ref n_rows) (C := RX0) (T := TX0) (N := 3) hx hb hts hinX0 hown hG.1 hP 0 rfl rfl 0 (by decide) k0 (fun _ h9 => h9) rfl dX0_get_23 ?_
          refine lv_iload_n hx hb dX0_get_26 rfl (lv_at hl 1 rfl) ?_
          refine lv_bipush (v := (8 : Int32)) hx hb dX0_get_27 (by decide) ?_
          refine lv_imul hx hb dX0_get_29 ?_
          refine lv_iload_n hx hb dX0_get_30 rfl (lv_at hl 2 rfl) ?_
          refine lv_iadd hx hb dX0_get_31 ?_
          obtain ⟨hi5, hm⟩ := chk_some hm
          refine va_iald hx hb hG.1 hP 1 0 rfl rfl hi5 dX0_get_32 ?_
          exact RET _ _ _ _ _ dX0_get_33 hm hP hD hS
        · replace hm := ifn c4 hm
          refine lv_iconst (v := (0 : Int32)) hx hb dX0_get_20 (by decide) ?_
          exact RET _ _ _ _ _ dX0_get_21 hm hP hD hS
set_option maxRecDepth 100000 in
theorem m_X0_get (l : Launch) (dC : Nat → ClassId) (dI : Nat → Nat → Nat) (k : Nat → ClassId) (sz : Nat) (n_t n_rows : Nat) (v_size : Int32) (v_stations : Int32) (r_rows : Nat → Int32) (x1 : Int32) (x2 : Int32) {o_r : Int32} (hm : f_X0_get x1 x2 r_rows = some o_r) : Met l yX0_get wsX0_get rm_X0_get (gPre dC dI k [.ref n_t, .int x1, .int x2] sz (wd_04c632 k n_t n_rows v_size v_stations r_rows)) (gQI dC dI (va_A (wd_04c632 k n_t n_rows v_size v_stations r_rows) sz) o_r (wd_04c632 k n_t n_rows v_size v_stations r_rows)) 0 0 (va_A (wd_04c632 k n_t n_rows v_size v_stations r_rows) sz) := by
  refine g_entry (cc := cX0_get) (maxL := 3) (ret := (some .int)) (lv := [(0, .ref n_t), (1, .int x1), (2, .int x2)]) (by decide +kernel) rfl (Nat.le_of_ble_eq_true rfl) rfl (fun p e s m below meth c ls hx hb hr hml hts hown hlk hnm hsz hG hA hP hD hS hl => ?_)
  exact k_X0_get hx hb hml hts hown hG hA n_t n_rows v_size v_stations r_rows x1 x2 o_r (fun pc H locs ls v hd ho hP hD hS => by cases ho; exact g_ireti hx hb hr hlk hP hD hS hd) s.heap [] ls hl hP hD hS hm
end
section
set_option maxHeartbeats 4000000 in
set_option maxRecDepth 100000 in
theorem k_X0_put {p : Program} {l : Launch} {e : Env} {s : State} {m : MethodId} {args : Array Value} {below : List Frame} {meth : Method} {c : Code} {A : Nat → Prop} {Q : State → Prop} {dC : Nat → ClassId} {dI : Nat → Nat → Nat} {k : Nat → ClassId} (hx : p.tables.exec = Jvm.exec) (hb : c.code = cX0_put) (hml : c.maxLocals = 4) (hts : ∀ w ∈ wsX0_put, w.before args s = true) (hown : s.vm.findClass RX0 = some m.cls) (hG : gK dC dI k A s) (hA : ∀ q : Nat, s.heap.size ≤ q → A q) (n_t n_rows : Nat) (v_size : Int32) (v_stations : Int32) (r_rows : Nat → Int32) (x1 : Int32) (x2 : Int32) (x3 : Int32) (o_r_rows : (Nat → Int32)) (RET : ∀ (pc : Nat) (H : Heap) (locs : List Loc) (ls : Array Slot) (q_r_rows : Nat → Int32), decode cX0_put pc = .ok (.return_, 1) → some q_r_rows = some o_r_rows → va_P (dC, dI) vwCl (wd_04c632 k n_t n_rows v_size v_stations q_r_rows) H → va_D A (wd_04c632 k n_t n_rows v_size v_stations q_r_rows) → va_S A s.heap H locs → W p l e rm_X0_put s m args below meth c H locs 0 0 Q (F0 m pc ls [])) (H : Heap) (locs : List Loc) (ls : Array Slot) (hl : lv_has ls 4 [(0, .ref n_t), (1, .int x1), (2, .int x2), (3, .int x3)]) (hP : va_P (dC, dI) vwCl (wd_04c632 k n_t n_rows v_size v_stations r_rows) H) (hD : va_D A (wd_04c632 k n_t n_rows v_size v_stations r_rows)) (hS : va_S A s.heap H locs) (hm : f_X0_put x1 x2 x3 r_rows = some o_r_rows) : W p l e rm_X0_put s m args below meth c H locs 0 0 Q (F0 m 0 ls []) := by
  have hinX0 : ∀ w ∈ u_ws RX0 TX0 3, w ∈ wsX0_put := by decide +kernel
  have k0 := hts (.fieldLink RX0 11 "CaveLegs$Legs" "rows" "[I") (by decide +kernel)
  unfold f_X0_put at hm
  refine lv_iload_n hx hb dX0_put_0 rfl (lv_at hl 1 rfl) ?_
  refine lv_if_lt (tgt := 32) hx hb dX0_put_1 (by decide) (fun c1 => ?_) (fun c1 => ?_)
  · replace hm := ifp c1 hm
    exact RET _ _ _ _ _ dX0_put_32 hm hP hD hS
  · replace hm := ifn c1 hm
    refine lv_iload_n hx hb dX0_put_4 rfl (lv_at hl 1 rfl) ?_
    refine lv_bipush (v := (8 : Int32)) hx hb dX0_put_5 (by decide) ?_
    refine lv_icmp_ge (tgt := 32) hx hb dX0_put_7 (by decide) (fun c2 => ?_) (fun c2 => ?_)
    · replace hm := ifp c2 hm
      exact RET _ _ _ _ _ dX0_put_32 hm hP hD hS
    · replace hm := ifn c2 hm
      refine lv_iload_n hx hb dX0_put_10 rfl (lv_at hl 2 rfl) ?_
      refine lv_if_lt (tgt := 32) hx hb dX0_put_11 (by decide) (fun c3 => ?_) (fun c3 => ?_)
      · replace hm := ifp c3 hm
        exact RET _ _ _ _ _ dX0_put_32 hm hP hD hS
      · replace hm := ifn c3 hm
        refine lv_iload_n hx hb dX0_put_14 rfl (lv_at hl 2 rfl) ?_
        refine lv_bipush (v := (8 : Int32)) hx hb dX0_put_15 (by decide) ?_
        refine lv_icmp_ge (tgt := 32) hx hb dX0_put_17 (by decide) (fun c4 => ?_) (fun c4 => ?_)
        · replace hm := ifp c4 hm
          exact RET _ _ _ _ _ dX0_put_32 hm hP hD hS
        · replace hm := ifn c4 hm
          refine lv_aload_n hx hb dX0_put_20 rfl (lv_at hl 0 rfl) ?_
          refine va_get (D := (dC, dI)) (ci := 0) (v := .ref n_rows) (C := RX0) (T := TX0) (N := 3) hx hb hts hinX0 hown hG.1 hP 0 rfl rfl 0 (by decide) k0 (fun _ h9 => h9) rfl dX0_put_21 ?_
          refine lv_iload_n hx hb dX0_put_24 rfl (lv_at hl 1 rfl) ?_
          refine lv_bipush (v := (8 : Int32)) hx hb dX0_put_25 (by decide) ?_
          refine lv_imul hx hb dX0_put_27 ?_
          refine lv_iload_n hx hb dX0_put_28 rfl (lv_at hl 2 rfl) ?_
          refine lv_iadd hx hb dX0_put_29 ?_
          refine lv_iload_n hx hb dX0_put_30 rfl (lv_at hl 3 rfl) ?_
          obtain ⟨hi5, hm⟩ := chk_some hm
          refine va_iast hx hb hG.1 hP hD hS 1 0 rfl rfl hi5 dX0_put_31 (fun H locs hP hD hS => ?_)
          replace hP : va_P (dC, dI) vwCl (wd_04c632 k n_t n_rows v_size v_stations (upd r_rows (Int32.toNatClampNeg ((x1 * (8 : Int32)) + x2)) x3)) H := hP
          replace hD : va_D A (wd_04c632 k n_t n_rows v_size v_stations (upd r_rows (Int32.toNatClampNeg ((x1 * (8 : Int32)) + x2)) x3)) := hD
          exact RET _ _ _ _ _ dX0_put_32 hm hP hD hS
set_option maxRecDepth 100000 in
theorem m_X0_put (l : Launch) (dC : Nat → ClassId) (dI : Nat → Nat → Nat) (k : Nat → ClassId) (sz : Nat) (n_t n_rows : Nat) (v_size : Int32) (v_stations : Int32) (r_rows : Nat → Int32) (x1 : Int32) (x2 : Int32) (x3 : Int32) {o_r_rows : (Nat → Int32)} (hm : f_X0_put x1 x2 x3 r_rows = some o_r_rows) : Met l yX0_put wsX0_put rm_X0_put (gPre dC dI k [.ref n_t, .int x1, .int x2, .int x3] sz (wd_04c632 k n_t n_rows v_size v_stations r_rows)) (gQV dC dI (va_A (wd_04c632 k n_t n_rows v_size v_stations r_rows) sz) (wd_04c632 k n_t n_rows v_size v_stations o_r_rows)) 0 0 (va_A (wd_04c632 k n_t n_rows v_size v_stations r_rows) sz) := by
  refine g_entry (cc := cX0_put) (maxL := 4) (ret := none) (lv := [(0, .ref n_t), (1, .int x1), (2, .int x2), (3, .int x3)]) (by decide +kernel) rfl (Nat.le_of_ble_eq_true rfl) rfl (fun p e s m below meth c ls hx hb hr hml hts hown hlk hnm hsz hG hA hP hD hS hl => ?_)
  exact k_X0_put hx hb hml hts hown hG hA n_t n_rows v_size v_stations r_rows x1 x2 x3 o_r_rows (fun pc H locs ls q_r_rows hd ho hP hD hS => by cases ho; exact g_vret hx hb hr hlk hP hD hS hd) s.heap [] ls hl hP hD hS hm
end
section
set_option maxHeartbeats 4000000 in
set_option maxRecDepth 100000 in
theorem k_X0_add {p : Program} {l : Launch} {e : Env} {s : State} {m : MethodId} {args : Array Value} {below : List Frame} {meth : Method} {c : Code} {A : Nat → Prop} {Q : State → Prop} {dC : Nat → ClassId} {dI : Nat → Nat → Nat} {k : Nat → ClassId} (hx : p.tables.exec = Jvm.exec) (hb : c.code = cX0_add) (hml : c.maxLocals = 7) (hts : ∀ w ∈ wsX0_add, w.before args s = true) (hown : s.vm.findClass RX0 = some m.cls) (hG : gK dC dI k A s) (hA : ∀ q : Nat, s.heap.size ≤ q → A q) (n_t n_rows : Nat) (v_size : Int32) (v_stations : Int32) (r_rows : Nat → Int32) (x1 : Int32) (x2 : Int32) (x3 : Int32) (x4 : Int32) (x5 : Int32) (x6 : Int32) (o_v_size : (Int32)) (o_r_rows : (Nat → Int32)) (RET : ∀ (pc : Nat) (H : Heap) (locs : List Loc) (ls : Array Slot) (q_v_size : Int32) (q_r_rows : Nat → Int32), decode cX0_add pc = .ok (.return_, 1) → some (q_v_size, q_r_rows) = some (o_v_size, o_r_rows) → va_P (dC, dI) vwCl (wd_04c632 k n_t n_rows q_v_size v_stations q_r_rows) H → va_D A (wd_04c632 k n_t n_rows q_v_size v_stations q_r_rows) → va_S A s.heap H locs → W p l e rm_X0_add s m args below meth c H locs 0 0 Q (F0 m pc ls [])) (H : Heap) (locs : List Loc) (ls : Array Slot) (hl : lv_has ls 7 [(0, .ref n_t), (1, .int x1), (2, .int x2), (3, .int x3), (4, .int x4), (5, .int x5), (6, .int x6)]) (hP : va_P (dC, dI) vwCl (wd_04c632 k n_t n_rows v_size v_stations r_rows) H) (hD : va_D A (wd_04c632 k n_t n_rows v_size v_stations r_rows)) (hS : va_S A s.heap H locs) (hm : f_X0_add x1 x2 x3 x4 x5 x6 v_size r_rows = some (o_v_size, o_r_rows)) : W p l e rm_X0_add s m args below meth c H locs 0 0 Q (F0 m 0 ls []) := by
  have hinX0 : ∀ w ∈ u_ws RX0 TX0 3, w ∈ wsX0_add := by decide +kernel
  have k0 := hts (.fieldLink RX0 19 "CaveLegs$Legs" "size" "I") (by decide +kernel)
  unfold f_X0_add at hm
  refine lv_aload_n hx hb dX0_add_0 rfl (lv_at hl 0 rfl) ?_
  refine va_get (D := (dC, dI)) (ci := 0) (v := .int v_size) (C := RX0) (T := TX0) (N := 3) hx hb hts hinX0 hown hG.1 hP 0 rfl rfl 1 (by decide) k0 (fun _ h9 => h9) rfl dX0_add_1 ?_
  refine lv_if_lt (tgt := 16) hx hb dX0_add_4 (by decide) (fun c1 => ?_) (fun c1 => ?_)
  · replace hm := ifp c1 hm
    exact RET _ _ _ _ _ _ dX0_add_16 hm hP hD hS
  · replace hm := ifn c1 hm
    refine lv_aload_n hx hb dX0_add_7 rfl (lv_at hl 0 rfl) ?_
    refine va_get (D := (dC, dI)) (ci := 0) (v := .int v_size) (C := RX0) (T := TX0) (N := 3) hx hb hts hinX0 hown hG.1 hP 0 rfl rfl 1 (by decide) k0 (fun _ h9 => h9) rfl dX0_add_8 ?_
    refine lv_bipush (v := (8 : Int32)) hx hb dX0_add_11 (by decide) ?_
    refine lv_icmp_lt (tgt := 17) hx hb dX0_add_13 (by decide) (fun c2 => ?_) (fun c2 => ?_)
    · replace hm := ifp c2 hm
      refine lv_aload_n hx hb dX0_add_17 rfl (lv_at hl 0 rfl) ?_
      refine lv_aload_n hx hb dX0_add_18 rfl (lv_at hl 0 rfl) ?_
      refine va_get (D := (dC, dI)) (ci := 0) (v := .int v_size) (C := RX0) (T := TX0) (N := 3) hx hb hts hinX0 hown hG.1 hP 0 rfl rfl 1 (by decide) k0 (fun _ h9 => h9) rfl dX0_add_19 ?_
      refine lv_iconst (v := (0 : Int32)) hx hb dX0_add_22 (by decide) ?_
      refine lv_iload_n hx hb dX0_add_23 rfl (lv_at hl 3 rfl) ?_
      obtain ⟨w3, e4, hm⟩ := bnd1_some hm
      refine g_callv (w2 := (wd_04c632 k n_t n_rows v_size v_stations w3)) (va_runV (As := [.int v_size, .int (0 : Int32), .int x3]) (rest := []) ⟨hx, hb, hml, hown, hts⟩ (m_X0_put l dC dI k H.size n_t n_rows v_size v_stations r_rows v_size (0 : Int32) x3 e4) (cwV 3 hts gX0_add_X0_put rfl rfl rfl (by decide +kernel) ⟨Nat.le_of_ble_eq_true rfl, Nat.le_of_ble_eq_true rfl⟩) (g_preV hG hP hD hS hA [0, 1] rfl (by decide) (ci := 0) (q0 := 0) rfl rfl) rfl rfl hl.1 rfl (lv_room (Nat.le_of_ble_eq_true rfl)) dX0_add_24 ⟨Nat.le_of_ble_eq_true rfl, Nat.le_of_ble_eq_true rfl⟩) hP hD hS hA [0, 1] [] [0, 1] rfl rfl (by decide) (by decide) rfl (by decide) (fun H locs hP hD hS => ?_)
      refine lv_aload_n hx hb dX0_add_27 rfl (lv_at hl 0 rfl) ?_
      refine lv_aload_n hx hb dX0_add_28 rfl (lv_at hl 0 rfl) ?_
      refine va_get (D := (dC, dI)) (ci := 0) (v := .int v_size) (C := RX0) (T := TX0) (N := 3) hx hb hts hinX0 hown hG.1 hP 0 rfl rfl 1 (by decide) k0 (fun _ h9 => h9) rfl dX0_add_29 ?_
      refine lv_iconst (v := (1 : Int32)) hx hb dX0_add_32 (by decide) ?_
      refine lv_iload hx hb dX0_add_33 (lv_at hl 4 rfl) ?_
      obtain ⟨w5, e6, hm⟩ := bnd1_some hm
      refine g_callv (w2 := (wd_04c632 k n_t n_rows v_size v_stations w5)) (va_runV (As := [.int v_size, .int (1 : Int32), .int x4]) (rest := []) ⟨hx, hb, hml, hown, hts⟩ (m_X0_put l dC dI k H.size n_t n_rows v_size v_stations w3 v_size (1 : Int32) x4 e6) (cwV 3 hts gX0_add_X0_put rfl rfl rfl (by decide +kernel) ⟨Nat.le_of_ble_eq_true rfl, Nat.le_of_ble_eq_true rfl⟩) (g_preV hG hP hD hS hA [0, 1] rfl (by decide) (ci := 0) (q0 := 0) rfl rfl) rfl rfl hl.1 rfl (lv_room (Nat.le_of_ble_eq_true rfl)) dX0_add_35 ⟨Nat.le_of_ble_eq_true rfl, Nat.le_of_ble_eq_true rfl⟩) hP hD hS hA [0, 1] [] [0, 1] rfl rfl (by decide) (by decide) rfl (by decide) (fun H locs hP hD hS => ?_)
      refine lv_aload_n hx hb dX0_add_38 rfl (lv_at hl 0 rfl) ?_
      refine lv_aload_n hx hb dX0_add_39 rfl (lv_at hl 0 rfl) ?_
      refine va_get (D := (dC, dI)) (ci := 0) (v := .int v_size) (C := RX0) (T := TX0) (N := 3) hx hb hts hinX0 hown hG.1 hP 0 rfl rfl 1 (by decide) k0 (fun _ h9 => h9) rfl dX0_add_40 ?_
      refine lv_iconst (v := (2 : Int32)) hx hb dX0_add_43 (by decide) ?_
      refine lv_iload hx hb dX0_add_44 (lv_at hl 5 rfl) ?_
      obtain ⟨w7, e8, hm⟩ := bnd1_some hm
      refine g_callv (w2 := (wd_04c632 k n_t n_rows v_size v_stations w7)) (va_runV (As := [.int v_size, .int (2 : Int32), .int x5]) (rest := []) ⟨hx, hb, hml, hown, hts⟩ (m_X0_put l dC dI k H.size n_t n_rows v_size v_stations w5 v_size (2 : Int32) x5 e8) (cwV 3 hts gX0_add_X0_put rfl rfl rfl (by decide +kernel) ⟨Nat.le_of_ble_eq_true rfl, Nat.le_of_ble_eq_true rfl⟩) (g_preV hG hP hD hS hA [0, 1] rfl (by decide) (ci := 0) (q0 := 0) rfl rfl) rfl rfl hl.1 rfl (lv_room (Nat.le_of_ble_eq_true rfl)) dX0_add_46 ⟨Nat.le_of_ble_eq_true rfl, Nat.le_of_ble_eq_true rfl⟩) hP hD hS hA [0, 1] [] [0, 1] rfl rfl (by decide) (by decide) rfl (by decide) (fun H locs hP hD hS => ?_)
      refine lv_aload_n hx hb dX0_add_49 rfl (lv_at hl 0 rfl) ?_
      refine lv_aload_n hx hb dX0_add_50 rfl (lv_at hl 0 rfl) ?_
      refine va_get (D := (dC, dI)) (ci := 0) (v := .int v_size) (C := RX0) (T := TX0) (N := 3) hx hb hts hinX0 hown hG.1 hP 0 rfl rfl 1 (by decide) k0 (fun _ h9 => h9) rfl dX0_add_51 ?_
      refine lv_iconst (v := (3 : Int32)) hx hb dX0_add_54 (by decide) ?_
      refine lv_iload hx hb dX0_add_55 (lv_at hl 6 rfl) ?_
      obtain ⟨w9, e10, hm⟩ := bnd1_some hm
      refine g_callv (w2 := (wd_04c632 k n_t n_rows v_size v_stations w9)) (va_runV (As := [.int v_size, .int (3 : Int32), .int x6]) (rest := []) ⟨hx, hb, hml, hown, hts⟩ (m_X0_put l dC dI k H.size n_t n_rows v_size v_stations w7 v_size (3 : Int32) x6 e10) (cwV 3 hts gX0_add_X0_put rfl rfl rfl (by decide +kernel) ⟨Nat.le_of_ble_eq_true rfl, Nat.le_of_ble_eq_true rfl⟩) (g_preV hG hP hD hS hA [0, 1] rfl (by decide) (ci := 0) (q0 := 0) rfl rfl) rfl rfl hl.1 rfl (lv_room (Nat.le_of_ble_eq_true rfl)) dX0_add_57 ⟨Nat.le_of_ble_eq_true rfl, Nat.le_of_ble_eq_true rfl⟩) hP hD hS hA [0, 1] [] [0, 1] rfl rfl (by decide) (by decide) rfl (by decide) (fun H locs hP hD hS => ?_)
      refine lv_aload_n hx hb dX0_add_60 rfl (lv_at hl 0 rfl) ?_
      refine lv_aload_n hx hb dX0_add_61 rfl (lv_at hl 0 rfl) ?_
      refine va_get (D := (dC, dI)) (ci := 0) (v := .int v_size) (C := RX0) (T := TX0) (N := 3) hx hb hts hinX0 hown hG.1 hP 0 rfl rfl 1 (by decide) k0 (fun _ h9 => h9) rfl dX0_add_62 ?_
      refine lv_iconst (v := (4 : Int32)) hx hb dX0_add_65 (by decide) ?_
      refine lv_iload_n hx hb dX0_add_66 rfl (lv_at hl 1 rfl) ?_
      obtain ⟨w11, e12, hm⟩ := bnd1_some hm
      refine g_callv (w2 := (wd_04c632 k n_t n_rows v_size v_stations w11)) (va_runV (As := [.int v_size, .int (4 : Int32), .int x1]) (rest := []) ⟨hx, hb, hml, hown, hts⟩ (m_X0_put l dC dI k H.size n_t n_rows v_size v_stations w9 v_size (4 : Int32) x1 e12) (cwV 3 hts gX0_add_X0_put rfl rfl rfl (by decide +kernel) ⟨Nat.le_of_ble_eq_true rfl, Nat.le_of_ble_eq_true rfl⟩) (g_preV hG hP hD hS hA [0, 1] rfl (by decide) (ci := 0) (q0 := 0) rfl rfl) rfl rfl hl.1 rfl (lv_room (Nat.le_of_ble_eq_true rfl)) dX0_add_67 ⟨Nat.le_of_ble_eq_true rfl, Nat.le_of_ble_eq_true rfl⟩) hP hD hS hA [0, 1] [] [0, 1] rfl rfl (by decide) (by decide) rfl (by decide) (fun H locs hP hD hS => ?_)
      refine lv_aload_n hx hb dX0_add_70 rfl (lv_at hl 0 rfl) ?_
      refine lv_aload_n hx hb dX0_add_71 rfl (lv_at hl 0 rfl) ?_
      refine va_get (D := (dC, dI)) (ci := 0) (v := .int v_size) (C := RX0) (T := TX0) (N := 3) hx hb hts hinX0 hown hG.1 hP 0 rfl rfl 1 (by decide) k0 (fun _ h9 => h9) rfl dX0_add_72 ?_
      refine lv_iconst (v := (5 : Int32)) hx hb dX0_add_75 (by decide) ?_
      refine lv_iload_n hx hb dX0_add_76 rfl (lv_at hl 2 rfl) ?_
      obtain ⟨w13, e14, hm⟩ := bnd1_some hm
      refine g_callv (w2 := (wd_04c632 k n_t n_rows v_size v_stations w13)) (va_runV (As := [.int v_size, .int (5 : Int32), .int x2]) (rest := []) ⟨hx, hb, hml, hown, hts⟩ (m_X0_put l dC dI k H.size n_t n_rows v_size v_stations w11 v_size (5 : Int32) x2 e14) (cwV 3 hts gX0_add_X0_put rfl rfl rfl (by decide +kernel) ⟨Nat.le_of_ble_eq_true rfl, Nat.le_of_ble_eq_true rfl⟩) (g_preV hG hP hD hS hA [0, 1] rfl (by decide) (ci := 0) (q0 := 0) rfl rfl) rfl rfl hl.1 rfl (lv_room (Nat.le_of_ble_eq_true rfl)) dX0_add_77 ⟨Nat.le_of_ble_eq_true rfl, Nat.le_of_ble_eq_true rfl⟩) hP hD hS hA [0, 1] [] [0, 1] rfl rfl (by decide) (by decide) rfl (by decide) (fun H locs hP hD hS => ?_)
      refine lv_aload_n hx hb dX0_add_80 rfl (lv_at hl 0 rfl) ?_
      refine lv_aload_n hx hb dX0_add_81 rfl (lv_at hl 0 rfl) ?_
      refine va_get (D := (dC, dI)) (ci := 0) (v := .int v_size) (C := RX0) (T := TX0) (N := 3) hx hb hts hinX0 hown hG.1 hP 0 rfl rfl 1 (by decide) k0 (fun _ h9 => h9) rfl dX0_add_82 ?_
      refine lv_bipush (v := (6 : Int32)) hx hb dX0_add_85 (by decide) ?_
      refine lv_iconst (v := (0 : Int32)) hx hb dX0_add_87 (by decide) ?_
      obtain ⟨w15, e16, hm⟩ := bnd1_some hm
      refine g_callv (w2 := (wd_04c632 k n_t n_rows v_size v_stations w15)) (va_runV (As := [.int v_size, .int (6 : Int32), .int (0 : Int32)]) (rest := []) ⟨hx, hb, hml, hown, hts⟩ (m_X0_put l dC dI k H.size n_t n_rows v_size v_stations w13 v_size (6 : Int32) (0 : Int32) e16) (cwV 3 hts gX0_add_X0_put rfl rfl rfl (by decide +kernel) ⟨Nat.le_of_ble_eq_true rfl, Nat.le_of_ble_eq_true rfl⟩) (g_preV hG hP hD hS hA [0, 1] rfl (by decide) (ci := 0) (q0 := 0) rfl rfl) rfl rfl hl.1 rfl (lv_room (Nat.le_of_ble_eq_true rfl)) dX0_add_88 ⟨Nat.le_of_ble_eq_true rfl, Nat.le_of_ble_eq_true rfl⟩) hP hD hS hA [0, 1] [] [0, 1] rfl rfl (by decide) (by decide) rfl (by decide) (fun H locs hP hD hS => ?_)
      refine lv_aload_n hx hb dX0_add_91 rfl (lv_at hl 0 rfl) ?_
      refine lv_aload_n hx hb dX0_add_92 rfl (lv_at hl 0 rfl) ?_
      refine va_get (D := (dC, dI)) (ci := 0) (v := .int v_size) (C := RX0) (T := TX0) (N := 3) hx hb hts hinX0 hown hG.1 hP 0 rfl rfl 1 (by decide) k0 (fun _ h9 => h9) rfl dX0_add_93 ?_
      refine lv_bipush (v := (7 : Int32)) hx hb dX0_add_96 (by decide) ?_
      refine lv_iconst (v := (1 : Int32)) hx hb dX0_add_98 (by decide) ?_
      refine lv_iload_n hx hb dX0_add_99 rfl (lv_at hl 1 rfl) ?_
      refine g_ishl hx hb dX0_add_100 ?_
      refine lv_iconst (v := (1 : Int32)) hx hb dX0_add_101 (by decide) ?_
      refine lv_iload_n hx hb dX0_add_102 rfl (lv_at hl 2 rfl) ?_
      refine g_ishl hx hb dX0_add_103 ?_
      refine lv_ior hx hb dX0_add_104 ?_
      obtain ⟨w17, e18, hm⟩ := bnd1_some hm
      refine g_callv (w2 := (wd_04c632 k n_t n_rows v_size v_stations w17)) (va_runV (As := [.int v_size, .int (7 : Int32), .int ((shlI (1 : Int32) x1) ||| (shlI (1 : Int32) x2))]) (rest := []) ⟨hx, hb, hml, hown, hts⟩ (m_X0_put l dC dI k H.size n_t n_rows v_size v_stations w15 v_size (7 : Int32) ((shlI (1 : Int32) x1) ||| (shlI (1 : Int32) x2)) e18) (cwV 3 hts gX0_add_X0_put rfl rfl rfl (by decide +kernel) ⟨Nat.le_of_ble_eq_true rfl, Nat.le_of_ble_eq_true rfl⟩) (g_preV hG hP hD hS hA [0, 1] rfl (by decide) (ci := 0) (q0 := 0) rfl rfl) rfl rfl hl.1 rfl (lv_room (Nat.le_of_ble_eq_true rfl)) dX0_add_105 ⟨Nat.le_of_ble_eq_true rfl, Nat.le_of_ble_eq_true rfl⟩) hP hD hS hA [0, 1] [] [0, 1] rfl rfl (by decide) (by decide) rfl (by decide) (fun H locs hP hD hS => ?_)
      refine lv_aload_n hx hb dX0_add_108 rfl (lv_at hl 0 rfl) ?_
      refine lv_dup hx hb dX0_add_109 rfl ?_
      refine va_get (D := (dC, dI)) (ci := 0) (v := .int v_size) (C := RX0) (T := TX0) (N := 3) hx hb hts hinX0 hown hG.1 hP 0 rfl rfl 1 (by decide) k0 (fun _ h9 => h9) rfl dX0_add_110 ?_
      refine lv_iconst (v := (1 : Int32)) hx hb dX0_add_113 (by decide) ?_
      refine lv_iadd hx hb dX0_add_114 ?_
      refine lv_topi (fun t19 et19 => ?_)
      replace hm := (nmd_eq et19).trans hm
      refine va_put (D := (dC, dI)) (ci := 0) (v := .int t19) (ty := .int) (C := RX0) (T := TX0) (N := 3) hx hb hts hinX0 tyX0 tyX0_ok nmX0 hown hG.1 hP hD hS 0 rfl rfl 1 (by decide) k0 (fun _ h9 => h9) rfl (by decide +kernel) rfl rfl (Nat.le_of_ble_eq_true rfl) dX0_add_115 (fun H locs hP hD hS => ?_)
      replace hP : va_P (dC, dI) vwCl (wd_04c632 k n_t n_rows t19 v_stations w17) H := hP
      replace hD : va_D A (wd_04c632 k n_t n_rows t19 v_stations w17) := hD
      exact RET _ _ _ _ _ _ dX0_add_118 hm hP hD hS
    · replace hm := ifn c2 hm
      exact RET _ _ _ _ _ _ dX0_add_16 hm hP hD hS
set_option maxRecDepth 100000 in
theorem m_X0_add (l : Launch) (dC : Nat → ClassId) (dI : Nat → Nat → Nat) (k : Nat → ClassId) (sz : Nat) (n_t n_rows : Nat) (v_size : Int32) (v_stations : Int32) (r_rows : Nat → Int32) (x1 : Int32) (x2 : Int32) (x3 : Int32) (x4 : Int32) (x5 : Int32) (x6 : Int32) {o_v_size : (Int32)} {o_r_rows : (Nat → Int32)} (hm : f_X0_add x1 x2 x3 x4 x5 x6 v_size r_rows = some (o_v_size, o_r_rows)) : Met l yX0_add wsX0_add rm_X0_add (gPre dC dI k [.ref n_t, .int x1, .int x2, .int x3, .int x4, .int x5, .int x6] sz (wd_04c632 k n_t n_rows v_size v_stations r_rows)) (gQV dC dI (va_A (wd_04c632 k n_t n_rows v_size v_stations r_rows) sz) (wd_04c632 k n_t n_rows o_v_size v_stations o_r_rows)) 0 0 (va_A (wd_04c632 k n_t n_rows v_size v_stations r_rows) sz) := by
  refine g_entry (cc := cX0_add) (maxL := 7) (ret := none) (lv := [(0, .ref n_t), (1, .int x1), (2, .int x2), (3, .int x3), (4, .int x4), (5, .int x5), (6, .int x6)]) (by decide +kernel) rfl (Nat.le_of_ble_eq_true rfl) rfl (fun p e s m below meth c ls hx hb hr hml hts hown hlk hnm hsz hG hA hP hD hS hl => ?_)
  exact k_X0_add hx hb hml hts hown hG hA n_t n_rows v_size v_stations r_rows x1 x2 x3 x4 x5 x6 o_v_size o_r_rows (fun pc H locs ls q_v_size q_r_rows hd ho hP hD hS => by cases ho; exact g_vret hx hb hr hlk hP hD hS hd) s.heap [] ls hl hP hD hS hm
end
section
set_option maxHeartbeats 4000000 in
set_option maxRecDepth 100000 in
theorem k_X0_remove {p : Program} {l : Launch} {e : Env} {s : State} {m : MethodId} {args : Array Value} {below : List Frame} {meth : Method} {c : Code} {A : Nat → Prop} {Q : State → Prop} {dC : Nat → ClassId} {dI : Nat → Nat → Nat} {k : Nat → ClassId} (hx : p.tables.exec = Jvm.exec) (hb : c.code = cX0_remove) (hml : c.maxLocals = 3) (hts : ∀ w ∈ wsX0_remove, w.before args s = true) (hown : s.vm.findClass RX0 = some m.cls) (hG : gK dC dI k A s) (hA : ∀ q : Nat, s.heap.size ≤ q → A q) (F : Nat) (n_t n_rows : Nat) (v_size : Int32) (v_stations : Int32) (r_rows : Nat → Int32) (x1 : Int32) (o_v_size : (Int32)) (o_r_rows : (Nat → Int32)) (RET : ∀ (pc : Nat) (H : Heap) (locs : List Loc) (ls : Array Slot) (q_v_size : Int32) (q_r_rows : Nat → Int32), decode cX0_remove pc = .ok (.return_, 1) → some (q_v_size, q_r_rows) = some (o_v_size, o_r_rows) → va_P (dC, dI) vwCl (wd_04c632 k n_t n_rows q_v_size v_stations q_r_rows) H → va_D A (wd_04c632 k n_t n_rows q_v_size v_stations q_r_rows) → va_S A s.heap H locs → W p l e rm_X0_remove s m args below meth c H locs 0 0 Q (F0 m pc ls [])) (H : Heap) (locs : List Loc) (ls : Array Slot) (hl : lv_has ls 3 [(0, .ref n_t), (1, .int x1)]) (hP : va_P (dC, dI) vwCl (wd_04c632 k n_t n_rows v_size v_stations r_rows) H) (hD : va_D A (wd_04c632 k n_t n_rows v_size v_stations r_rows)) (hS : va_S A s.heap H locs) (hm : f_X0_remove F x1 v_size r_rows = some (o_v_size, o_r_rows)) : W p l e rm_X0_remove s m args below meth c H locs 0 0 Q (F0 m 0 ls []) := by
  have hinX0 : ∀ w ∈ u_ws RX0 TX0 3, w ∈ wsX0_remove := by decide +kernel
  have k0 := hts (.fieldLink RX0 19 "CaveLegs$Legs" "size" "I") (by decide +kernel)
  have k1 := hts (.fieldLink RX0 11 "CaveLegs$Legs" "rows" "[I") (by decide +kernel)
  have J_51 : ∀ (v_size : Int32) (r_rows : Nat → Int32) (H : Heap) (locs : List Loc) (ls : Array Slot), lv_has ls 3 [(0, .ref n_t)] → va_P (dC, dI) vwCl (wd_04c632 k n_t n_rows v_size v_stations r_rows) H → va_D A (wd_04c632 k n_t n_rows v_size v_stations r_rows) → va_S A s.heap H locs → f_X0_remove_J51 F v_size r_rows = some (o_v_size, o_r_rows) → W p l e rm_X0_remove s m args below meth c H locs 0 0 Q (F0 m 51 ls []) := by
    intro v_size r_rows H locs ls hl hP hD hS hm
    unfold f_X0_remove_J51 at hm
    refine lv_aload_n hx hb dX0_remove_51 rfl (lv_at hl 0 rfl) ?_
    refine lv_dup hx hb dX0_remove_52 rfl ?_
    refine va_get (D := (dC, dI)) (ci := 0) (v := .int v_size) (C := RX0) (T := TX0) (N := 3) hx hb hts hinX0 hown hG.1 hP 0 rfl rfl 1 (by decide) k0 (fun _ h9 => h9) rfl dX0_remove_53 ?_
    refine lv_iconst (v := (1 : Int32)) hx hb dX0_remove_56 (by decide) ?_
    refine lv_isub hx hb dX0_remove_57 ?_
    refine lv_topi (fun t1 et1 => ?_)
    replace hm := (nmd_eq et1).trans hm
    refine va_put (D := (dC, dI)) (ci := 0) (v := .int t1) (ty := .int) (C := RX0) (T := TX0) (N := 3) hx hb hts hinX0 tyX0 tyX0_ok nmX0 hown hG.1 hP hD hS 0 rfl rfl 1 (by decide) k0 (fun _ h9 => h9) rfl (by decide +kernel) rfl rfl (Nat.le_of_ble_eq_true rfl) dX0_remove_58 (fun H locs hP hD hS => ?_)
    replace hP : va_P (dC, dI) vwCl (wd_04c632 k n_t n_rows t1 v_stations r_rows) H := hP
    replace hD : va_D A (wd_04c632 k n_t n_rows t1 v_stations r_rows) := hD
    exact RET _ _ _ _ _ _ dX0_remove_61 hm hP hD hS
  have L_14 : ∀ (n14 : Nat) (v_size : Int32) (r_rows : Nat → Int32) (x2 : Int32) (H : Heap) (locs : List Loc) (ls : Array Slot), lv_has ls 3 [(0, .ref n_t), (2, .int x2)] → va_P (dC, dI) vwCl (wd_04c632 k n_t n_rows v_size v_stations r_rows) H → va_D A (wd_04c632 k n_t n_rows v_size v_stations r_rows) → va_S A s.heap H locs → f_X0_remove_L14 F n14 v_size r_rows x2 = some (o_v_size, o_r_rows) → W p l e rm_X0_remove s m args below meth c H locs 0 0 Q (F0 m 14 ls []) := by
    intro n14
    induction n14 with
    | zero =>
      intro v_size r_rows x2 H locs ls hl hP hD hS hm
      exact non_some hm
    | succ n14 ih14 =>
      intro v_size r_rows x2 H locs ls hl hP hD hS hm
      replace hm : f_X0_remove_B14 F (f_X0_remove_L14 F n14) v_size r_rows x2 = some (o_v_size, o_r_rows) := hm
      unfold f_X0_remove_B14 at hm
      refine lv_iload_n hx hb dX0_remove_14 rfl (lv_at hl 1 rfl) ?_
      refine lv_if_lt (tgt := 51) hx hb dX0_remove_15 (by decide) (fun c2 => ?_) (fun c2 => ?_)
      · replace hm := ifp c2 hm
        exact J_51 _ _ _ _ _ (lv_sub hl [0] rfl) hP hD hS hm
      · replace hm := ifn c2 hm
        refine lv_iload_n hx hb dX0_remove_18 rfl (lv_at hl 1 rfl) ?_
        refine lv_bipush (v := (8 : Int32)) hx hb dX0_remove_19 (by decide) ?_
        refine lv_iadd hx hb dX0_remove_21 ?_
        refine lv_aload_n hx hb dX0_remove_22 rfl (lv_at hl 0 rfl) ?_
        refine va_get (D := (dC, dI)) (ci := 0) (v := .ref n_rows) (C := RX0) (T := TX0) (N := 3) hx hb hts hinX0 hown hG.1 hP 0 rfl rfl 0 (by decide) k1 (fun _ h9 => h9) rfl dX0_remove_23 ?_
        refine va_alen (v := (64 : Int32)) hx hb hG.1 hP 1 0 rfl rfl rfl dX0_remove_26 ?_
        refine lv_icmp_ge (tgt := 51) hx hb dX0_remove_27 (by decide) (fun c3 => ?_) (fun c3 => ?_)
        · replace hm := ifp c3 hm
          exact J_51 _ _ _ _ _ (lv_sub hl [0] rfl) hP hD hS hm
        · replace hm := ifn c3 hm
          refine lv_aload_n hx hb dX0_remove_30 rfl (lv_at hl 0 rfl) ?_
          refine va_get (D := (dC, dI)) (ci := 0) (v := .ref n_rows) (C := RX0) (T := TX0) (N := 3) hx hb hts hinX0 hown hG.1 hP 0 rfl rfl 0 (by decide) k1 (fun _ h9 => h9) rfl dX0_remove_31 ?_
          refine lv_iload_n hx hb dX0_remove_34 rfl (lv_at hl 1 rfl) ?_
          refine lv_aload_n hx hb dX0_remove_35 rfl (lv_at hl 0 rfl) ?_
          refine va_get (D := (dC, dI)) (ci := 0) (v := .ref n_rows) (C := RX0) (T := TX0) (N := 3) hx hb hts hinX0 hown hG.1 hP 0 rfl rfl 0 (by decide) k1 (fun _ h9 => h9) rfl dX0_remove_36 ?_
          refine lv_iload_n hx hb dX0_remove_39 rfl (lv_at hl 1 rfl) ?_
          refine lv_bipush (v := (8 : Int32)) hx hb dX0_remove_40 (by decide) ?_
          refine lv_iadd hx hb dX0_remove_42 ?_
          obtain ⟨hi4, hm⟩ := chk_some hm
          refine va_iald hx hb hG.1 hP 1 0 rfl rfl hi4 dX0_remove_43 ?_
          refine lv_topi (fun t5 et5 => ?_)
          replace hm := (nmd_eq et5).trans hm
          obtain ⟨hi6, hm⟩ := chk_some hm
          refine va_iast hx hb hG.1 hP hD hS 1 0 rfl rfl hi6 dX0_remove_44 (fun H locs hP hD hS => ?_)
          replace hP : va_P (dC, dI) vwCl (wd_04c632 k n_t n_rows v_size v_stations (upd r_rows (Int32.toNatClampNeg x2) t5)) H := hP
          replace hD : va_D A (wd_04c632 k n_t n_rows v_size v_stations (upd r_rows (Int32.toNatClampNeg x2) t5)) := hD
          obtain ⟨t7, et7⟩ : ∃ y : Int32, y = x2 + (1 : Int32) := ⟨_, rfl⟩
          replace hm := (nmd_eq et7).trans hm
          refine lv_iinc (v := t7) (lv' := [(2, .int t7), (0, .ref n_t)]) hx hb dX0_remove_45 hl (k := 1) rfl (by rw [et7]; rfl) (by decide) rfl (fun ls hl => ?_)
          refine lv_goto (tgt := 14) hx hb dX0_remove_48 (by decide) ?_
          exact ih14 _ _ _ _ _ _ (lv_sub hl [1, 0] rfl) hP hD hS hm
  unfold f_X0_remove at hm
  refine lv_aload_n hx hb dX0_remove_0 rfl (lv_at hl 0 rfl) ?_
  refine lv_iload_n hx hb dX0_remove_1 rfl (lv_at hl 1 rfl) ?_
  obtain ⟨r8, e9, hm⟩ := bnd1_some hm
  refine g_calli (w2 := (wd_04c632 k n_t n_rows v_size v_stations r_rows)) (va_runV (As := [.int x1]) (rest := []) ⟨hx, hb, hml, hown, hts⟩ (m_X0_has l dC dI k H.size n_t n_rows v_size v_stations x1 e9) (cwV 1 hts gX0_remove_X0_has rfl rfl rfl (by decide +kernel) ⟨Nat.le_of_ble_eq_true rfl, Nat.le_of_ble_eq_true rfl⟩) (g_preV hG hP hD hS hA [0] rfl (by decide) (ci := 0) (q0 := 0) rfl rfl) rfl rfl hl.1 rfl (lv_room (Nat.le_of_ble_eq_true rfl)) dX0_remove_2 ⟨Nat.le_of_ble_eq_true rfl, Nat.le_of_ble_eq_true rfl⟩) hP hD hS hA [0] [1] [1, 0] rfl rfl (by decide) (by decide) rfl (by decide) (fun H locs hP hD hS => ?_)
  refine lv_if_ne (tgt := 9) hx hb dX0_remove_5 (by decide) (fun c10 => ?_) (fun c10 => ?_)
  · replace hm := ifn c10 hm
    refine lv_iload_n hx hb dX0_remove_9 rfl (lv_at hl 1 rfl) ?_
    refine lv_bipush (v := (8 : Int32)) hx hb dX0_remove_10 (by decide) ?_
    refine lv_imul hx hb dX0_remove_12 ?_
    refine lv_topi (fun t11 et11 => ?_)
    replace hm := (nmd_eq et11).trans hm
    refine lv_istore_n (lv' := [(2, .int t11), (0, .ref n_t), (1, .int x1)]) hx hb dX0_remove_13 rfl hl (by decide) rfl (fun ls hl => ?_)
    exact L_14 F _ _ _ _ _ _ (lv_sub hl [1, 0] rfl) hP hD hS hm
  · replace hm := ifp c10 hm
    exact RET _ _ _ _ _ _ dX0_remove_8 hm hP hD hS
set_option maxRecDepth 100000 in
theorem m_X0_remove (l : Launch) (dC : Nat → ClassId) (dI : Nat → Nat → Nat) (k : Nat → ClassId) (F : Nat) (sz : Nat) (n_t n_rows : Nat) (v_size : Int32) (v_stations : Int32) (r_rows : Nat → Int32) (x1 : Int32) {o_v_size : (Int32)} {o_r_rows : (Nat → Int32)} (hm : f_X0_remove F x1 v_size r_rows = some (o_v_size, o_r_rows)) : Met l yX0_remove wsX0_remove rm_X0_remove (gPre dC dI k [.ref n_t, .int x1] sz (wd_04c632 k n_t n_rows v_size v_stations r_rows)) (gQV dC dI (va_A (wd_04c632 k n_t n_rows v_size v_stations r_rows) sz) (wd_04c632 k n_t n_rows o_v_size v_stations o_r_rows)) 0 0 (va_A (wd_04c632 k n_t n_rows v_size v_stations r_rows) sz) := by
  refine g_entry (cc := cX0_remove) (maxL := 3) (ret := none) (lv := [(0, .ref n_t), (1, .int x1)]) (by decide +kernel) rfl (Nat.le_of_ble_eq_true rfl) rfl (fun p e s m below meth c ls hx hb hr hml hts hown hlk hnm hsz hG hA hP hD hS hl => ?_)
  exact k_X0_remove hx hb hml hts hown hG hA F n_t n_rows v_size v_stations r_rows x1 o_v_size o_r_rows (fun pc H locs ls q_v_size q_r_rows hd ho hP hD hS => by cases ho; exact g_vret hx hb hr hlk hP hD hS hd) s.heap [] ls hl hP hD hS hm
end
section
set_option maxHeartbeats 4000000 in
set_option maxRecDepth 100000 in
theorem k_X0_turn {p : Program} {l : Launch} {e : Env} {s : State} {m : MethodId} {args : Array Value} {below : List Frame} {meth : Method} {c : Code} {A : Nat → Prop} {Q : State → Prop} {dC : Nat → ClassId} {dI : Nat → Nat → Nat} {k : Nat → ClassId} (hx : p.tables.exec = Jvm.exec) (hb : c.code = cX0_turn) (hml : c.maxLocals = 2) (hts : ∀ w ∈ wsX0_turn, w.before args s = true) (hown : s.vm.findClass RX0 = some m.cls) (hG : gK dC dI k A s) (hA : ∀ q : Nat, s.heap.size ≤ q → A q) (n_t n_rows : Nat) (v_size : Int32) (v_stations : Int32) (r_rows : Nat → Int32) (x1 : Int32) (o_r_rows : (Nat → Int32)) (RET : ∀ (pc : Nat) (H : Heap) (locs : List Loc) (ls : Array Slot) (q_r_rows : Nat → Int32), decode cX0_turn pc = .ok (.return_, 1) → some q_r_rows = some o_r_rows → va_P (dC, dI) vwCl (wd_04c632 k n_t n_rows v_size v_stations q_r_rows) H → va_D A (wd_04c632 k n_t n_rows v_size v_stations q_r_rows) → va_S A s.heap H locs → W p l e rm_X0_turn s m args below meth c H locs 0 0 Q (F0 m pc ls [])) (H : Heap) (locs : List Loc) (ls : Array Slot) (hl : lv_has ls 2 [(0, .ref n_t), (1, .int x1)]) (hP : va_P (dC, dI) vwCl (wd_04c632 k n_t n_rows v_size v_stations r_rows) H) (hD : va_D A (wd_04c632 k n_t n_rows v_size v_stations r_rows)) (hS : va_S A s.heap H locs) (hm : f_X0_turn x1 r_rows = some o_r_rows) : W p l e rm_X0_turn s m args below meth c H locs 0 0 Q (F0 m 0 ls []) := by
  unfold f_X0_turn at hm
  refine lv_aload_n hx hb dX0_turn_0 rfl (lv_at hl 0 rfl) ?_
  refine lv_iload_n hx hb dX0_turn_1 rfl (lv_at hl 1 rfl) ?_
  refine lv_bipush (v := (6 : Int32)) hx hb dX0_turn_2 (by decide) ?_
  refine lv_iconst (v := (1 : Int32)) hx hb dX0_turn_4 (by decide) ?_
  refine lv_aload_n hx hb dX0_turn_5 rfl (lv_at hl 0 rfl) ?_
  refine lv_iload_n hx hb dX0_turn_6 rfl (lv_at hl 1 rfl) ?_
  refine lv_bipush (v := (6 : Int32)) hx hb dX0_turn_7 (by decide) ?_
  obtain ⟨r1, e2, hm⟩ := bnd1_some hm
  refine g_calli (w2 := (wd_04c632 k n_t n_rows v_size v_stations r_rows)) (va_runV (As := [.int x1, .int (6 : Int32)]) (rest := [.int (1 : Int32), .int (6 : Int32), .int x1, .ref n_t]) ⟨hx, hb, hml, hown, hts⟩ (m_X0_get l dC dI k H.size n_t n_rows v_size v_stations r_rows x1 (6 : Int32) e2) (cwV 2 hts gX0_turn_X0_get rfl rfl rfl (by decide +kernel) ⟨Nat.le_of_ble_eq_true rfl, Nat.le_of_ble_eq_true rfl⟩) (g_preV hG hP hD hS hA [0, 1] rfl (by decide) (ci := 0) (q0 := 0) rfl rfl) rfl rfl hl.1 rfl (lv_room (Nat.le_of_ble_eq_true rfl)) dX0_turn_9 ⟨Nat.le_of_ble_eq_true rfl, Nat.le_of_ble_eq_true rfl⟩) hP hD hS hA [0, 1] [] [0, 1] rfl rfl (by decide) (by decide) rfl (by decide) (fun H locs hP hD hS => ?_)
  refine lv_isub hx hb dX0_turn_12 ?_
  obtain ⟨w3, e4, hm⟩ := bnd1_some hm
  refine g_callv (w2 := (wd_04c632 k n_t n_rows v_size v_stations w3)) (va_runV (As := [.int x1, .int (6 : Int32), .int ((1 : Int32) - r1)]) (rest := []) ⟨hx, hb, hml, hown, hts⟩ (m_X0_put l dC dI k H.size n_t n_rows v_size v_stations r_rows x1 (6 : Int32) ((1 : Int32) - r1) e4) (cwV 3 hts gX0_turn_X0_put rfl rfl rfl (by decide +kernel) ⟨Nat.le_of_ble_eq_true rfl, Nat.le_of_ble_eq_true rfl⟩) (g_preV hG hP hD hS hA [0, 1] rfl (by decide) (ci := 0) (q0 := 0) rfl rfl) rfl rfl hl.1 rfl (lv_room (Nat.le_of_ble_eq_true rfl)) dX0_turn_13 ⟨Nat.le_of_ble_eq_true rfl, Nat.le_of_ble_eq_true rfl⟩) hP hD hS hA [0, 1] [] [0, 1] rfl rfl (by decide) (by decide) rfl (by decide) (fun H locs hP hD hS => ?_)
  exact RET _ _ _ _ _ dX0_turn_16 hm hP hD hS
set_option maxRecDepth 100000 in
theorem m_X0_turn (l : Launch) (dC : Nat → ClassId) (dI : Nat → Nat → Nat) (k : Nat → ClassId) (sz : Nat) (n_t n_rows : Nat) (v_size : Int32) (v_stations : Int32) (r_rows : Nat → Int32) (x1 : Int32) {o_r_rows : (Nat → Int32)} (hm : f_X0_turn x1 r_rows = some o_r_rows) : Met l yX0_turn wsX0_turn rm_X0_turn (gPre dC dI k [.ref n_t, .int x1] sz (wd_04c632 k n_t n_rows v_size v_stations r_rows)) (gQV dC dI (va_A (wd_04c632 k n_t n_rows v_size v_stations r_rows) sz) (wd_04c632 k n_t n_rows v_size v_stations o_r_rows)) 0 0 (va_A (wd_04c632 k n_t n_rows v_size v_stations r_rows) sz) := by
  refine g_entry (cc := cX0_turn) (maxL := 2) (ret := none) (lv := [(0, .ref n_t), (1, .int x1)]) (by decide +kernel) rfl (Nat.le_of_ble_eq_true rfl) rfl (fun p e s m below meth c ls hx hb hr hml hts hown hlk hnm hsz hG hA hP hD hS hl => ?_)
  exact k_X0_turn hx hb hml hts hown hG hA n_t n_rows v_size v_stations r_rows x1 o_r_rows (fun pc H locs ls q_r_rows hd ho hP hD hS => by cases ho; exact g_vret hx hb hr hlk hP hD hS hd) s.heap [] ls hl hP hD hS hm
end
section
set_option maxHeartbeats 4000000 in
set_option maxRecDepth 100000 in
theorem k_X0_copy {p : Program} {l : Launch} {e : Env} {s : State} {m : MethodId} {args : Array Value} {below : List Frame} {meth : Method} {c : Code} {A : Nat → Prop} {Q : State → Prop} {dC : Nat → ClassId} {dI : Nat → Nat → Nat} {k : Nat → ClassId} (hx : p.tables.exec = Jvm.exec) (hb : c.code = cX0_copy) (hml : c.maxLocals = 3) (hts : ∀ w ∈ wsX0_copy, w.before args s = true) (hown : s.vm.findClass RX0 = some m.cls) (hG : gK dC dI k A s) (hA : ∀ q : Nat, s.heap.size ≤ q → A q) (F : Nat) (n_t n_p1 n_rows n_p1_rows : Nat) (v_size : Int32) (v_stations : Int32) (v_p1_size : Int32) (v_p1_stations : Int32) (r_rows : Nat → Int32) (r_p1_rows : Nat → Int32) (o_v_size : (Int32)) (o_v_stations : (Int32)) (o_r_rows : (Nat → Int32)) (RET : ∀ (pc : Nat) (H : Heap) (locs : List Loc) (ls : Array Slot) (q_v_size : Int32) (q_v_stations : Int32) (q_r_rows : Nat → Int32), decode cX0_copy pc = .ok (.return_, 1) → some (q_v_size, q_v_stations, q_r_rows) = some (o_v_size, o_v_stations, o_r_rows) → va_P (dC, dI) vwCl (wd_a313a3 k n_t n_p1 n_rows n_p1_rows q_v_size q_v_stations v_p1_size v_p1_stations q_r_rows r_p1_rows) H → va_D A (wd_a313a3 k n_t n_p1 n_rows n_p1_rows q_v_size q_v_stations v_p1_size v_p1_stations q_r_rows r_p1_rows) → va_S A s.heap H locs → W p l e rm_X0_copy s m args below meth c H locs 0 0 Q (F0 m pc ls [])) (H : Heap) (locs : List Loc) (ls : Array Slot) (hl : lv_has ls 3 [(0, .ref n_t), (1, .ref n_p1)]) (hP : va_P (dC, dI) vwCl (wd_a313a3 k n_t n_p1 n_rows n_p1_rows v_size v_stations v_p1_size v_p1_stations r_rows r_p1_rows) H) (hD : va_D A (wd_a313a3 k n_t n_p1 n_rows n_p1_rows v_size v_stations v_p1_size v_p1_stations r_rows r_p1_rows)) (hS : va_S A s.heap H locs) (hm : f_X0_copy F v_size v_stations r_rows v_p1_size v_p1_stations r_p1_rows = some (o_v_size, o_v_stations, o_r_rows)) : W p l e rm_X0_copy s m args below meth c H locs 0 0 Q (F0 m 0 ls []) := by
  have hinX0 : ∀ w ∈ u_ws RX0 TX0 3, w ∈ wsX0_copy := by decide +kernel
  have k0 := hts (.fieldLink RX0 19 "CaveLegs$Legs" "size" "I") (by decide +kernel)
  have k1 := hts (.fieldLink RX0 15 "CaveLegs$Legs" "stations" "I") (by decide +kernel)
  have k2 := hts (.fieldLink RX0 11 "CaveLegs$Legs" "rows" "[I") (by decide +kernel)
  have J_43 : ∀ (v_size : Int32) (v_stations : Int32) (r_rows : Nat → Int32) (H : Heap) (locs : List Loc) (ls : Array Slot), lv_has ls 3 [(0, .ref n_t), (1, .ref n_p1)] → va_P (dC, dI) vwCl (wd_a313a3 k n_t n_p1 n_rows n_p1_rows v_size v_stations v_p1_size v_p1_stations r_rows r_p1_rows) H → va_D A (wd_a313a3 k n_t n_p1 n_rows n_p1_rows v_size v_stations v_p1_size v_p1_stations r_rows r_p1_rows) → va_S A s.heap H locs → f_X0_copy_J43 F v_p1_size v_p1_stations r_p1_rows v_size v_stations r_rows = some (o_v_size, o_v_stations, o_r_rows) → W p l e rm_X0_copy s m args below meth c H locs 0 0 Q (F0 m 43 ls []) := by
    intro v_size v_stations r_rows H locs ls hl hP hD hS hm
    unfold f_X0_copy_J43 at hm
    refine lv_aload_n hx hb dX0_copy_43 rfl (lv_at hl 0 rfl) ?_
    refine lv_aload_n hx hb dX0_copy_44 rfl (lv_at hl 1 rfl) ?_
    refine va_get (D := (dC, dI)) (ci := 0) (v := .int v_p1_size) (C := RX0) (T := TX0) (N := 3) hx hb hts hinX0 hown hG.1 hP 2 rfl rfl 1 (by decide) k0 (fun _ h9 => h9) rfl dX0_copy_45 ?_
    refine va_put (D := (dC, dI)) (ci := 0) (v := .int v_p1_size) (ty := .int) (C := RX0) (T := TX0) (N := 3) hx hb hts hinX0 tyX0 tyX0_ok nmX0 hown hG.1 hP hD hS 0 rfl rfl 1 (by decide) k0 (fun _ h9 => h9) rfl (by decide +kernel) rfl rfl (Nat.le_of_ble_eq_true rfl) dX0_copy_48 (fun H locs hP hD hS => ?_)
    replace hP : va_P (dC, dI) vwCl (wd_a313a3 k n_t n_p1 n_rows n_p1_rows v_p1_size v_stations v_p1_size v_p1_stations r_rows r_p1_rows) H := hP
    replace hD : va_D A (wd_a313a3 k n_t n_p1 n_rows n_p1_rows v_p1_size v_stations v_p1_size v_p1_stations r_rows r_p1_rows) := hD
    refine lv_aload_n hx hb dX0_copy_51 rfl (lv_at hl 0 rfl) ?_
    refine lv_aload_n hx hb dX0_copy_52 rfl (lv_at hl 1 rfl) ?_
    refine va_get (D := (dC, dI)) (ci := 0) (v := .int v_p1_stations) (C := RX0) (T := TX0) (N := 3) hx hb hts hinX0 hown hG.1 hP 2 rfl rfl 2 (by decide) k1 (fun _ h9 => h9) rfl dX0_copy_53 ?_
    refine va_put (D := (dC, dI)) (ci := 0) (v := .int v_p1_stations) (ty := .int) (C := RX0) (T := TX0) (N := 3) hx hb hts hinX0 tyX0 tyX0_ok nmX0 hown hG.1 hP hD hS 0 rfl rfl 2 (by decide) k1 (fun _ h9 => h9) rfl (by decide +kernel) rfl rfl (Nat.le_of_ble_eq_true rfl) dX0_copy_56 (fun H locs hP hD hS => ?_)
    replace hP : va_P (dC, dI) vwCl (wd_a313a3 k n_t n_p1 n_rows n_p1_rows v_p1_size v_p1_stations v_p1_size v_p1_stations r_rows r_p1_rows) H := hP
    replace hD : va_D A (wd_a313a3 k n_t n_p1 n_rows n_p1_rows v_p1_size v_p1_stations v_p1_size v_p1_stations r_rows r_p1_rows) := hD
    exact RET _ _ _ _ _ _ _ dX0_copy_59 hm hP hD hS
  have L_7 : ∀ (n7 : Nat) (v_size : Int32) (v_stations : Int32) (r_rows : Nat → Int32) (x2 : Int32) (H : Heap) (locs : List Loc) (ls : Array Slot), lv_has ls 3 [(0, .ref n_t), (1, .ref n_p1), (2, .int x2)] → va_P (dC, dI) vwCl (wd_a313a3 k n_t n_p1 n_rows n_p1_rows v_size v_stations v_p1_size v_p1_stations r_rows r_p1_rows) H → va_D A (wd_a313a3 k n_t n_p1 n_rows n_p1_rows v_size v_stations v_p1_size v_p1_stations r_rows r_p1_rows) → va_S A s.heap H locs → f_X0_copy_L7 F v_p1_size v_p1_stations r_p1_rows n7 v_size v_stations r_rows x2 = some (o_v_size, o_v_stations, o_r_rows) → W p l e rm_X0_copy s m args below meth c H locs 0 0 Q (F0 m 7 ls []) := by
    intro n7
    induction n7 with
    | zero =>
      intro v_size v_stations r_rows x2 H locs ls hl hP hD hS hm
      exact non_some hm
    | succ n7 ih7 =>
      intro v_size v_stations r_rows x2 H locs ls hl hP hD hS hm
      replace hm : f_X0_copy_B7 F v_p1_size v_p1_stations r_p1_rows (f_X0_copy_L7 F v_p1_size v_p1_stations r_p1_rows n7) v_size v_stations r_rows x2 = some (o_v_size, o_v_stations, o_r_rows) := hm
      unfold f_X0_copy_B7 at hm
      refine lv_iload_n hx hb dX0_copy_7 rfl (lv_at hl 2 rfl) ?_
      refine lv_aload_n hx hb dX0_copy_8 rfl (lv_at hl 0 rfl) ?_
      refine va_get (D := (dC, dI)) (ci := 0) (v := .ref n_rows) (C := RX0) (T := TX0) (N := 3) hx hb hts hinX0 hown hG.1 hP 0 rfl rfl 0 (by decide) k2 (fun _ h9 => h9) rfl dX0_copy_9 ?_
      refine va_alen (v := (64 : Int32)) hx hb hG.1 hP 1 0 rfl rfl rfl dX0_copy_12 ?_
      refine lv_icmp_ge (tgt := 43) hx hb dX0_copy_13 (by decide) (fun c1 => ?_) (fun c1 => ?_)
      · replace hm := ifp c1 hm
        exact J_43 _ _ _ _ _ _ (lv_sub hl [0, 1] rfl) hP hD hS hm
      · replace hm := ifn c1 hm
        refine lv_iload_n hx hb dX0_copy_16 rfl (lv_at hl 2 rfl) ?_
        refine lv_aload_n hx hb dX0_copy_17 rfl (lv_at hl 1 rfl) ?_
        refine va_get (D := (dC, dI)) (ci := 0) (v := .ref n_p1_rows) (C := RX0) (T := TX0) (N := 3) hx hb hts hinX0 hown hG.1 hP 2 rfl rfl 0 (by decide) k2 (fun _ h9 => h9) rfl dX0_copy_18 ?_
        refine va_alen (v := (64 : Int32)) hx hb hG.1 hP 3 0 rfl rfl rfl dX0_copy_21 ?_
        refine lv_icmp_ge (tgt := 43) hx hb dX0_copy_22 (by decide) (fun c2 => ?_) (fun c2 => ?_)
        · replace hm := ifp c2 hm
          exact J_43 _ _ _ _ _ _ (lv_sub hl [0, 1] rfl) hP hD hS hm
        · replace hm := ifn c2 hm
          refine lv_aload_n hx hb dX0_copy_25 rfl (lv_at hl 0 rfl) ?_
          refine va_get (D := (dC, dI)) (ci := 0) (v := .ref n_rows) (C := RX0) (T := TX0) (N := 3) hx hb hts hinX0 hown hG.1 hP 0 rfl rfl 0 (by decide) k2 (fun _ h9 => h9) rfl dX0_copy_26 ?_
          refine lv_iload_n hx hb dX0_copy_29 rfl (lv_at hl 2 rfl) ?_
          refine lv_aload_n hx hb dX0_copy_30 rfl (lv_at hl 1 rfl) ?_
          refine va_get (D := (dC, dI)) (ci := 0) (v := .ref n_p1_rows) (C := RX0) (T := TX0) (N := 3) hx hb hts hinX0 hown hG.1 hP 2 rfl rfl 0 (by decide) k2 (fun _ h9 => h9) rfl dX0_copy_31 ?_
          refine lv_iload_n hx hb dX0_copy_34 rfl (lv_at hl 2 rfl) ?_
          obtain ⟨hi3, hm⟩ := chk_some hm
          refine va_iald hx hb hG.1 hP 3 0 rfl rfl hi3 dX0_copy_35 ?_
          refine lv_topi (fun t4 et4 => ?_)
          replace hm := (nmd_eq et4).trans hm
          obtain ⟨hi5, hm⟩ := chk_some hm
          refine va_iast hx hb hG.1 hP hD hS 1 0 rfl rfl hi5 dX0_copy_36 (fun H locs hP hD hS => ?_)
          replace hP : va_P (dC, dI) vwCl (wd_a313a3 k n_t n_p1 n_rows n_p1_rows v_size v_stations v_p1_size v_p1_stations (upd r_rows (Int32.toNatClampNeg x2) t4) r_p1_rows) H := hP
          replace hD : va_D A (wd_a313a3 k n_t n_p1 n_rows n_p1_rows v_size v_stations v_p1_size v_p1_stations (upd r_rows (Int32.toNatClampNeg x2) t4) r_p1_rows) := hD
          obtain ⟨t6, et6⟩ : ∃ y : Int32, y = x2 + (1 : Int32) := ⟨_, rfl⟩
          replace hm := (nmd_eq et6).trans hm
          refine lv_iinc (v := t6) (lv' := [(2, .int t6), (0, .ref n_t), (1, .ref n_p1)]) hx hb dX0_copy_37 hl (k := 2) rfl (by rw [et6]; rfl) (by decide) rfl (fun ls hl => ?_)
          refine lv_goto (tgt := 7) hx hb dX0_copy_40 (by decide) ?_
          exact ih7 _ _ _ _ _ _ _ (lv_sub hl [1, 2, 0] rfl) hP hD hS hm
  unfold f_X0_copy at hm
  refine lv_aload_n hx hb dX0_copy_0 rfl (lv_at hl 1 rfl) ?_
  refine lv_ifnonnull (tgt := 5) hx hb dX0_copy_1 (by decide) ?_
  refine lv_iconst (v := (0 : Int32)) hx hb dX0_copy_5 (by decide) ?_
  refine lv_istore_n (lv' := [(2, .int (0 : Int32)), (0, .ref n_t), (1, .ref n_p1)]) hx hb dX0_copy_6 rfl hl (by decide) rfl (fun ls hl => ?_)
  exact L_7 F _ _ _ _ _ _ _ (lv_sub hl [1, 2, 0] rfl) hP hD hS hm
set_option maxRecDepth 100000 in
theorem m_X0_copy (l : Launch) (dC : Nat → ClassId) (dI : Nat → Nat → Nat) (k : Nat → ClassId) (F : Nat) (sz : Nat) (n_t n_p1 n_rows n_p1_rows : Nat) (v_size : Int32) (v_stations : Int32) (v_p1_size : Int32) (v_p1_stations : Int32) (r_rows : Nat → Int32) (r_p1_rows : Nat → Int32) {o_v_size : (Int32)} {o_v_stations : (Int32)} {o_r_rows : (Nat → Int32)} (hm : f_X0_copy F v_size v_stations r_rows v_p1_size v_p1_stations r_p1_rows = some (o_v_size, o_v_stations, o_r_rows)) : Met l yX0_copy wsX0_copy rm_X0_copy (gPre dC dI k [.ref n_t, .ref n_p1] sz (wd_a313a3 k n_t n_p1 n_rows n_p1_rows v_size v_stations v_p1_size v_p1_stations r_rows r_p1_rows)) (gQV dC dI (va_A (wd_a313a3 k n_t n_p1 n_rows n_p1_rows v_size v_stations v_p1_size v_p1_stations r_rows r_p1_rows) sz) (wd_a313a3 k n_t n_p1 n_rows n_p1_rows o_v_size o_v_stations v_p1_size v_p1_stations o_r_rows r_p1_rows)) 0 0 (va_A (wd_a313a3 k n_t n_p1 n_rows n_p1_rows v_size v_stations v_p1_size v_p1_stations r_rows r_p1_rows) sz) := by
  refine g_entry (cc := cX0_copy) (maxL := 3) (ret := none) (lv := [(0, .ref n_t), (1, .ref n_p1)]) (by decide +kernel) rfl (Nat.le_of_ble_eq_true rfl) rfl (fun p e s m below meth c ls hx hb hr hml hts hown hlk hnm hsz hG hA hP hD hS hl => ?_)
  exact k_X0_copy hx hb hml hts hown hG hA F n_t n_p1 n_rows n_p1_rows v_size v_stations v_p1_size v_p1_stations r_rows r_p1_rows o_v_size o_v_stations o_r_rows (fun pc H locs ls q_v_size q_v_stations q_r_rows hd ho hP hD hS => by cases ho; exact g_vret hx hb hr hlk hP hD hS hd) s.heap [] ls hl hP hD hS hm
end
section
set_option maxHeartbeats 4000000 in
set_option maxRecDepth 100000 in
theorem k_X0_rise {p : Program} {l : Launch} {e : Env} {s : State} {m : MethodId} {args : Array Value} {below : List Frame} {meth : Method} {c : Code} {A : Nat → Prop} {Q : State → Prop} {dC : Nat → ClassId} {dI : Nat → Nat → Nat} {k : Nat → ClassId} (hx : p.tables.exec = Jvm.exec) (hb : c.code = cX0_rise) (hml : c.maxLocals = 2) (hts : ∀ w ∈ wsX0_rise, w.before args s = true) (hown : s.vm.findClass RX0 = some m.cls) (hG : gK dC dI k A s) (hA : ∀ q : Nat, s.heap.size ≤ q → A q)  (x0 : Int32) (x1 : Int32) (o_r : Int32) (RET : ∀ (pc : Nat) (H : Heap) (locs : List Loc) (ls : Array Slot) (v : Int32), decode cX0_rise pc = .ok (.ireturn, 1) → some v = some o_r → va_P (dC, dI) vwCl [] H → va_D A [] → va_S A s.heap H locs → W p l e rm_X0_rise s m args below meth c H locs 0 0 Q (F0 m pc ls [.int v])) (H : Heap) (locs : List Loc) (ls : Array Slot) (hl : lv_has ls 2 [(0, .int x0), (1, .int x1)]) (hP : va_P (dC, dI) vwCl [] H) (hD : va_D A []) (hS : va_S A s.heap H locs) (hm : f_X0_rise x0 x1 = some o_r) : W p l e rm_X0_rise s m args below meth c H locs 0 0 Q (F0 m 0 ls []) := by
  unfold f_X0_rise at hm
  refine lv_iload_n hx hb dX0_rise_0 rfl (lv_at hl 1 rfl) ?_
  by_cases c1 : x1 = (0 : Int32)
  · replace hm := ifp c1 hm
    refine lv_tableIn (off := 35) (tgt := 36) hx hb dX0_rise_1 (by rw [c1]; decide) (by rw [c1]; decide) (by rw [c1]; rfl) (by decide) ?_
    refine lv_iload_n hx hb dX0_rise_36 rfl (lv_at hl 0 rfl) ?_
    refine lv_bipush (v := (87 : Int32)) hx hb dX0_rise_37 (by decide) ?_
    refine lv_imul hx hb dX0_rise_39 ?_
    refine lv_bipush (v := (100 : Int32)) hx hb dX0_rise_40 (by decide) ?_
    refine lv_idiv hx hb dX0_rise_42 (by decide) ?_
    refine lv_ineg hx hb dX0_rise_43 ?_
    exact RET _ _ _ _ _ dX0_rise_44 hm hP hD hS
  · replace hm := ifn c1 hm
    by_cases c2 : x1 = (1 : Int32)
    · replace hm := ifp c2 hm
      refine lv_tableIn (off := 44) (tgt := 45) hx hb dX0_rise_1 (by rw [c2]; decide) (by rw [c2]; decide) (by rw [c2]; rfl) (by decide) ?_
      refine lv_iload_n hx hb dX0_rise_45 rfl (lv_at hl 0 rfl) ?_
      refine lv_iconst (v := (2 : Int32)) hx hb dX0_rise_46 (by decide) ?_
      refine lv_idiv hx hb dX0_rise_47 (by decide) ?_
      refine lv_ineg hx hb dX0_rise_48 ?_
      exact RET _ _ _ _ _ dX0_rise_49 hm hP hD hS
    · replace hm := ifn c2 hm
      by_cases c3 : x1 = (2 : Int32)
      · replace hm := ifp c3 hm
        refine lv_tableIn (off := 61) (tgt := 62) hx hb dX0_rise_1 (by rw [c3]; decide) (by rw [c3]; decide) (by rw [c3]; rfl) (by decide) ?_
        refine lv_iconst (v := (0 : Int32)) hx hb dX0_rise_62 (by decide) ?_
        exact RET _ _ _ _ _ dX0_rise_63 hm hP hD hS
      · replace hm := ifn c3 hm
        by_cases c4 : x1 = (3 : Int32)
        · replace hm := ifp c4 hm
          refine lv_tableIn (off := 49) (tgt := 50) hx hb dX0_rise_1 (by rw [c4]; decide) (by rw [c4]; decide) (by rw [c4]; rfl) (by decide) ?_
          refine lv_iload_n hx hb dX0_rise_50 rfl (lv_at hl 0 rfl) ?_
          refine lv_iconst (v := (2 : Int32)) hx hb dX0_rise_51 (by decide) ?_
          refine lv_idiv hx hb dX0_rise_52 (by decide) ?_
          exact RET _ _ _ _ _ dX0_rise_53 hm hP hD hS
        · replace hm := ifn c4 hm
          by_cases c5 : x1 = (4 : Int32)
          · replace hm := ifp c5 hm
            refine lv_tableIn (off := 53) (tgt := 54) hx hb dX0_rise_1 (by rw [c5]; decide) (by rw [c5]; decide) (by rw [c5]; rfl) (by decide) ?_
            refine lv_iload_n hx hb dX0_rise_54 rfl (lv_at hl 0 rfl) ?_
            refine lv_bipush (v := (87 : Int32)) hx hb dX0_rise_55 (by decide) ?_
            refine lv_imul hx hb dX0_rise_57 ?_
            refine lv_bipush (v := (100 : Int32)) hx hb dX0_rise_58 (by decide) ?_
            refine lv_idiv hx hb dX0_rise_60 (by decide) ?_
            exact RET _ _ _ _ _ dX0_rise_61 hm hP hD hS
          · replace hm := ifn c5 hm
            refine lv_tableOut (tgt := 62) hx hb dX0_rise_1 (by have qc1 := i32_ne c1 (z := 0) (by decide); have qc2 := i32_ne c2 (z := 1) (by decide); have qc3 := i32_ne c3 (z := 2) (by decide); have qc4 := i32_ne c4 (z := 3) (by decide); have qc5 := i32_ne c5 (z := 4) (by decide); omega) (by decide) ?_
            refine lv_iconst (v := (0 : Int32)) hx hb dX0_rise_62 (by decide) ?_
            exact RET _ _ _ _ _ dX0_rise_63 hm hP hD hS
set_option maxRecDepth 100000 in
theorem m_X0_rise (l : Launch) (dC : Nat → ClassId) (dI : Nat → Nat → Nat) (k : Nat → ClassId) (sz : Nat)  (x0 : Int32) (x1 : Int32) {o_r : Int32} (hm : f_X0_rise x0 x1 = some o_r) : Met l yX0_rise wsX0_rise rm_X0_rise (gPre dC dI k [.int x0, .int x1] sz []) (gQI dC dI (va_A [] sz) o_r []) 0 0 (va_A [] sz) := by
  refine g_entry (cc := cX0_rise) (maxL := 2) (ret := (some .int)) (lv := [(0, .int x0), (1, .int x1)]) (by decide +kernel) rfl (Nat.le_of_ble_eq_true rfl) rfl (fun p e s m below meth c ls hx hb hr hml hts hown hlk hnm hsz hG hA hP hD hS hl => ?_)
  exact k_X0_rise hx hb hml hts hown hG hA x0 x1 o_r (fun pc H locs ls v hd ho hP hD hS => by cases ho; exact g_ireti hx hb hr hlk hP hD hS hd) s.heap [] ls hl hP hD hS hm
end
section
set_option maxHeartbeats 4000000 in
set_option maxRecDepth 100000 in
theorem k_X0_level {p : Program} {l : Launch} {e : Env} {s : State} {m : MethodId} {args : Array Value} {below : List Frame} {meth : Method} {c : Code} {A : Nat → Prop} {Q : State → Prop} {dC : Nat → ClassId} {dI : Nat → Nat → Nat} {k : Nat → ClassId} (hx : p.tables.exec = Jvm.exec) (hb : c.code = cX0_level) (hml : c.maxLocals = 2) (hts : ∀ w ∈ wsX0_level, w.before args s = true) (hown : s.vm.findClass RX0 = some m.cls) (hG : gK dC dI k A s) (hA : ∀ q : Nat, s.heap.size ≤ q → A q)  (x0 : Int32) (x1 : Int32) (o_r : Int32) (RET : ∀ (pc : Nat) (H : Heap) (locs : List Loc) (ls : Array Slot) (v : Int32), decode cX0_level pc = .ok (.ireturn, 1) → some v = some o_r → va_P (dC, dI) vwCl [] H → va_D A [] → va_S A s.heap H locs → W p l e rm_X0_level s m args below meth c H locs 0 0 Q (F0 m pc ls [.int v])) (H : Heap) (locs : List Loc) (ls : Array Slot) (hl : lv_has ls 2 [(0, .int x0), (1, .int x1)]) (hP : va_P (dC, dI) vwCl [] H) (hD : va_D A []) (hS : va_S A s.heap H locs) (hm : f_X0_level x0 x1 = some o_r) : W p l e rm_X0_level s m args below meth c H locs 0 0 Q (F0 m 0 ls []) := by
  have J_30 : ∀ (x0 : Int32) (H : Heap) (locs : List Loc) (ls : Array Slot), lv_has ls 2 [(0, .int x0)] → va_P (dC, dI) vwCl [] H → va_D A [] → va_S A s.heap H locs → f_X0_level_J30  x0 = some o_r → W p l e rm_X0_level s m args below meth c H locs 0 0 Q (F0 m 30 ls []) := by
    intro x0 H locs ls hl hP hD hS hm
    unfold f_X0_level_J30 at hm
    refine lv_iload_n hx hb dX0_level_30 rfl (lv_at hl 0 rfl) ?_
    refine lv_bipush (v := (87 : Int32)) hx hb dX0_level_31 (by decide) ?_
    refine lv_imul hx hb dX0_level_33 ?_
    refine lv_bipush (v := (100 : Int32)) hx hb dX0_level_34 (by decide) ?_
    refine lv_idiv hx hb dX0_level_36 (by decide) ?_
    exact RET _ _ _ _ _ dX0_level_37 hm hP hD hS
  unfold f_X0_level at hm
  refine lv_iload_n hx hb dX0_level_0 rfl (lv_at hl 1 rfl) ?_
  by_cases c1 : x1 = (1 : Int32)
  · replace hm := ifp c1 hm
    refine lv_tableIn (off := 29) (tgt := 30) hx hb dX0_level_1 (by rw [c1]; decide) (by rw [c1]; decide) (by rw [c1]; rfl) (by decide) ?_
    exact J_30 _ _ _ _ (lv_sub hl [0] rfl) hP hD hS hm
  · replace hm := ifn c1 hm
    by_cases c2 : x1 = (2 : Int32)
    · replace hm := ifp c2 hm
      refine lv_tableIn (off := 27) (tgt := 28) hx hb dX0_level_1 (by rw [c2]; decide) (by rw [c2]; decide) (by rw [c2]; rfl) (by decide) ?_
      refine lv_iload_n hx hb dX0_level_28 rfl (lv_at hl 0 rfl) ?_
      exact RET _ _ _ _ _ dX0_level_29 hm hP hD hS
    · replace hm := ifn c2 hm
      by_cases c3 : x1 = (3 : Int32)
      · replace hm := ifp c3 hm
        refine lv_tableIn (off := 29) (tgt := 30) hx hb dX0_level_1 (by rw [c3]; decide) (by rw [c3]; decide) (by rw [c3]; rfl) (by decide) ?_
        exact J_30 _ _ _ _ (lv_sub hl [0] rfl) hP hD hS hm
      · replace hm := ifn c3 hm
        refine lv_tableOut (tgt := 38) hx hb dX0_level_1 (by have qc1 := i32_ne c1 (z := 1) (by decide); have qc2 := i32_ne c2 (z := 2) (by decide); have qc3 := i32_ne c3 (z := 3) (by decide); omega) (by decide) ?_
        refine lv_iload_n hx hb dX0_level_38 rfl (lv_at hl 0 rfl) ?_
        refine lv_bipush (v := (50 : Int32)) hx hb dX0_level_39 (by decide) ?_
        refine lv_imul hx hb dX0_level_41 ?_
        refine lv_bipush (v := (100 : Int32)) hx hb dX0_level_42 (by decide) ?_
        refine lv_idiv hx hb dX0_level_44 (by decide) ?_
        exact RET _ _ _ _ _ dX0_level_45 hm hP hD hS
set_option maxRecDepth 100000 in
theorem m_X0_level (l : Launch) (dC : Nat → ClassId) (dI : Nat → Nat → Nat) (k : Nat → ClassId) (sz : Nat)  (x0 : Int32) (x1 : Int32) {o_r : Int32} (hm : f_X0_level x0 x1 = some o_r) : Met l yX0_level wsX0_level rm_X0_level (gPre dC dI k [.int x0, .int x1] sz []) (gQI dC dI (va_A [] sz) o_r []) 0 0 (va_A [] sz) := by
  refine g_entry (cc := cX0_level) (maxL := 2) (ret := (some .int)) (lv := [(0, .int x0), (1, .int x1)]) (by decide +kernel) rfl (Nat.le_of_ble_eq_true rfl) rfl (fun p e s m below meth c ls hx hb hr hml hts hown hlk hnm hsz hG hA hP hD hS hl => ?_)
  exact k_X0_level hx hb hml hts hown hG hA x0 x1 o_r (fun pc H locs ls v hd ho hP hD hS => by cases ho; exact g_ireti hx hb hr hlk hP hD hS hd) s.heap [] ls hl hP hD hS hm
end
section
set_option maxHeartbeats 4000000 in
set_option maxRecDepth 100000 in
theorem k_J9_floorMod_7cf53 {p : Program} {l : Launch} {e : Env} {s : State} {m : MethodId} {args : Array Value} {below : List Frame} {meth : Method} {c : Code} {A : Nat → Prop} {Q : State → Prop} {dC : Nat → ClassId} {dI : Nat → Nat → Nat} {k : Nat → ClassId} (hx : p.tables.exec = Jvm.exec) (hb : c.code = cJ9_floorMod_7cf53) (hml : c.maxLocals = 3) (hts : ∀ w ∈ wsJ9_floorMod_7cf53, w.before args s = true) (hown : s.vm.findClass RJ9 = some m.cls) (hG : gK dC dI k A s) (hA : ∀ q : Nat, s.heap.size ≤ q → A q)  (x0 : Int32) (x1 : Int32) (o_r : Int32) (RET : ∀ (pc : Nat) (H : Heap) (locs : List Loc) (ls : Array Slot) (v : Int32), decode cJ9_floorMod_7cf53 pc = .ok (.ireturn, 1) → some v = some o_r → va_P (dC, dI) vwCl [] H → va_D A [] → va_S A s.heap H locs → W p l e rm_J9_floorMod_7cf53 s m args below meth c H locs 0 0 Q (F0 m pc ls [.int v])) (H : Heap) (locs : List Loc) (ls : Array Slot) (hl : lv_has ls 3 [(0, .int x0), (1, .int x1)]) (hP : va_P (dC, dI) vwCl [] H) (hD : va_D A []) (hS : va_S A s.heap H locs) (hm : f_J9_floorMod_7cf53 x0 x1 = some o_r) : W p l e rm_J9_floorMod_7cf53 s m args below meth c H locs 0 0 Q (F0 m 0 ls []) := by
  unfold f_J9_floorMod_7cf53 at hm
  refine lv_iload_n hx hb dJ9_floorMod_7cf53_0 rfl (lv_at hl 0 rfl) ?_
  refine lv_iload_n hx hb dJ9_floorMod_7cf53_1 rfl (lv_at hl 1 rfl) ?_
  obtain ⟨hz1, hm⟩ := chkD_some hm
  refine g_irem hx hb dJ9_floorMod_7cf53_2 hz1 ?_
  refine lv_topi (fun t2 et2 => ?_)
  replace hm := (nmd_eq et2).trans hm
  refine lv_istore_n (lv' := [(2, .int t2), (0, .int x0), (1, .int x1)]) hx hb dJ9_floorMod_7cf53_3 rfl hl (by decide) rfl (fun ls hl => ?_)
  refine lv_iload_n hx hb dJ9_floorMod_7cf53_4 rfl (lv_at hl 1 rfl) ?_
  refine lv_iload_n hx hb dJ9_floorMod_7cf53_5 rfl (lv_at hl 2 rfl) ?_
  refine lv_ixor hx hb dJ9_floorMod_7cf53_6 ?_
  refine lv_if_ge (tgt := 18) hx hb dJ9_floorMod_7cf53_7 (by decide) (fun c3 => ?_) (fun c3 => ?_)
  · replace hm := ifp c3 hm
    refine lv_iload_n hx hb dJ9_floorMod_7cf53_18 rfl (lv_at hl 0 rfl) ?_
    exact RET _ _ _ _ _ dJ9_floorMod_7cf53_19 hm hP hD hS
  · replace hm := ifn c3 hm
    refine lv_iload_n hx hb dJ9_floorMod_7cf53_10 rfl (lv_at hl 0 rfl) ?_
    refine lv_if_eq (tgt := 18) hx hb dJ9_floorMod_7cf53_11 (by decide) (fun c4 => ?_) (fun c4 => ?_)
    · replace hm := ifp c4 hm
      refine lv_iload_n hx hb dJ9_floorMod_7cf53_18 rfl (lv_at hl 0 rfl) ?_
      exact RET _ _ _ _ _ dJ9_floorMod_7cf53_19 hm hP hD hS
    · replace hm := ifn c4 hm
      refine lv_iload_n hx hb dJ9_floorMod_7cf53_14 rfl (lv_at hl 0 rfl) ?_
      refine lv_iload_n hx hb dJ9_floorMod_7cf53_15 rfl (lv_at hl 2 rfl) ?_
      refine lv_iadd hx hb dJ9_floorMod_7cf53_16 ?_
      exact RET _ _ _ _ _ dJ9_floorMod_7cf53_17 hm hP hD hS
set_option maxRecDepth 100000 in
theorem m_J9_floorMod_7cf53 (l : Launch) (dC : Nat → ClassId) (dI : Nat → Nat → Nat) (k : Nat → ClassId) (sz : Nat)  (x0 : Int32) (x1 : Int32) {o_r : Int32} (hm : f_J9_floorMod_7cf53 x0 x1 = some o_r) : Met l yJ9_floorMod_7cf53 wsJ9_floorMod_7cf53 rm_J9_floorMod_7cf53 (gPre dC dI k [.int x0, .int x1] sz []) (gQI dC dI (va_A [] sz) o_r []) 0 0 (va_A [] sz) := by
  refine g_entryF (cc := cJ9_floorMod_7cf53) (maxL := 3) (ret := (some .int)) (lv := [(0, .int x0), (1, .int x1)]) (by decide +kernel) rfl (Nat.le_of_ble_eq_true rfl) rfl (fun p e s m below meth c ls hx hb hr hml hts hown hlk hnm hsz hG hA hP hD hS hl => ?_)
  exact k_J9_floorMod_7cf53 hx hb hml hts hown hG hA x0 x1 o_r (fun pc H locs ls v hd ho hP hD hS => by cases ho; exact g_ireti hx hb hr hlk hP hD hS hd) s.heap [] ls hl hP hD hS hm
end
section
set_option maxHeartbeats 4000000 in
set_option maxRecDepth 100000 in
theorem k_X0_sine {p : Program} {l : Launch} {e : Env} {s : State} {m : MethodId} {args : Array Value} {below : List Frame} {meth : Method} {c : Code} {A : Nat → Prop} {Q : State → Prop} {dC : Nat → ClassId} {dI : Nat → Nat → Nat} {k : Nat → ClassId} (hx : p.tables.exec = Jvm.exec) (hb : c.code = cX0_sine) (hml : c.maxLocals = 2) (hts : ∀ w ∈ wsX0_sine, w.before args s = true) (hown : s.vm.findClass RX0 = some m.cls) (hG : gK dC dI k A s) (hA : ∀ q : Nat, s.heap.size ≤ q → A q)  (x0 : Int32) (o_r : Int32) (RET : ∀ (pc : Nat) (H : Heap) (locs : List Loc) (ls : Array Slot) (v : Int32), decode cX0_sine pc = .ok (.ireturn, 1) → some v = some o_r → va_P (dC, dI) vwCl [] H → va_D A [] → va_S A s.heap H locs → W p l e rm_X0_sine s m args below meth c H locs 0 0 Q (F0 m pc ls [.int v])) (H : Heap) (locs : List Loc) (ls : Array Slot) (hl : lv_has ls 2 [(0, .int x0)]) (hP : va_P (dC, dI) vwCl [] H) (hD : va_D A []) (hS : va_S A s.heap H locs) (hm : f_X0_sine x0 = some o_r) : W p l e rm_X0_sine s m args below meth c H locs 0 0 Q (F0 m 0 ls []) := by
  have k0 := hts (.fieldLink RX0 49 "CaveLegs$Legs" "SINES" "[I") (by decide +kernel)
  obtain ⟨tS, hZ, hT⟩ := hG.2.2
  unfold f_X0_sine at hm
  refine lv_iload_n hx hb dX0_sine_0 rfl (lv_at hl 0 rfl) ?_
  refine lv_bipush (v := (12 : Int32)) hx hb dX0_sine_1 (by decide) ?_
  obtain ⟨r1, e2, hm⟩ := bnd1_some hm
  refine g_calli (w2 := []) (va_runS (As := [.int x0, .int (12 : Int32)]) (rest := []) ⟨hx, hb, hml, hown, hts⟩ (m_J9_floorMod_7cf53 l dC dI k H.size  x0 (12 : Int32) e2) (va_cwS 2 hts gX0_sine_J9_floorMod_7cf53 rfl rfl rfl (by decide +kernel) ⟨Nat.le_of_ble_eq_true rfl, Nat.le_of_ble_eq_true rfl⟩) (g_preS hG hP hD hS hA [] rfl (by decide)) rfl rfl hl.1 rfl (lv_room (Nat.le_of_ble_eq_true rfl)) dX0_sine_3 ⟨Nat.le_of_ble_eq_true rfl, Nat.le_of_ble_eq_true rfl⟩) hP hD hS hA [] [] [] rfl rfl (by decide) (by decide) rfl (by decide) (fun H locs hP hD hS => ?_)
  refine lv_istore_n (lv' := [(1, .int r1), (0, .int x0)]) hx hb dX0_sine_6 rfl hl (by decide) rfl (fun ls hl => ?_)
  refine lv_iload_n hx hb dX0_sine_7 rfl (lv_at hl 0 rfl) ?_
  refine lv_if_lt (tgt := 27) hx hb dX0_sine_8 (by decide) (fun c3 => ?_) (fun c3 => ?_)
  · replace hm := ifp c3 hm
    refine lv_iconst (v := (0 : Int32)) hx hb dX0_sine_27 (by decide) ?_
    exact RET _ _ _ _ _ dX0_sine_28 hm hP hD hS
  · replace hm := ifn c3 hm
    refine lv_iload_n hx hb dX0_sine_11 rfl (lv_at hl 0 rfl) ?_
    refine va_gets hx hb hZ hS hown k0 (fun _ h9 => h9) dX0_sine_12 ?_
    refine va_tlen (v := (12 : Int32)) hx hb hT hS (by decide) dX0_sine_15 ?_
    refine lv_icmp_ge (tgt := 27) hx hb dX0_sine_16 (by decide) (fun c4 => ?_) (fun c4 => ?_)
    · replace hm := ifp c4 hm
      refine lv_iconst (v := (0 : Int32)) hx hb dX0_sine_27 (by decide) ?_
      exact RET _ _ _ _ _ dX0_sine_28 hm hP hD hS
    · replace hm := ifn c4 hm
      refine va_gets hx hb hZ hS hown k0 (fun _ h9 => h9) dX0_sine_19 ?_
      refine lv_iload_n hx hb dX0_sine_22 rfl (lv_at hl 0 rfl) ?_
      obtain ⟨hi5, hm⟩ := chk_some hm
      refine va_ti (v := .int (sinT (Int32.toNatClampNeg r1))) hx hb hT hS hi5 rfl dX0_sine_23 ?_
      refine lv_goto (tgt := 28) hx hb dX0_sine_24 (by decide) ?_
      exact RET _ _ _ _ _ dX0_sine_28 hm hP hD hS
set_option maxRecDepth 100000 in
theorem m_X0_sine (l : Launch) (dC : Nat → ClassId) (dI : Nat → Nat → Nat) (k : Nat → ClassId) (sz : Nat)  (x0 : Int32) {o_r : Int32} (hm : f_X0_sine x0 = some o_r) : Met l yX0_sine wsX0_sine rm_X0_sine (gPre dC dI k [.int x0] sz []) (gQI dC dI (va_A [] sz) o_r []) 0 0 (va_A [] sz) := by
  refine g_entry (cc := cX0_sine) (maxL := 2) (ret := (some .int)) (lv := [(0, .int x0)]) (by decide +kernel) rfl (Nat.le_of_ble_eq_true rfl) rfl (fun p e s m below meth c ls hx hb hr hml hts hown hlk hnm hsz hG hA hP hD hS hl => ?_)
  exact k_X0_sine hx hb hml hts hown hG hA x0 o_r (fun pc H locs ls v hd ho hP hD hS => by cases ho; exact g_ireti hx hb hr hlk hP hD hS hd) s.heap [] ls hl hP hD hS hm
end
section
set_option maxHeartbeats 4000000 in
set_option maxRecDepth 100000 in
theorem k_X0_vector {p : Program} {l : Launch} {e : Env} {s : State} {m : MethodId} {args : Array Value} {below : List Frame} {meth : Method} {c : Code} {A : Nat → Prop} {Q : State → Prop} {dC : Nat → ClassId} {dI : Nat → Nat → Nat} {k : Nat → ClassId} (hx : p.tables.exec = Jvm.exec) (hb : c.code = cX0_vector) (hml : c.maxLocals = 5) (hts : ∀ w ∈ wsX0_vector, w.before args s = true) (hown : s.vm.findClass RX0 = some m.cls) (hG : gK dC dI k A s) (hA : ∀ q : Nat, s.heap.size ≤ q → A q) (n_t n_rows : Nat) (v_size : Int32) (v_stations : Int32) (r_rows : Nat → Int32) (x1 : Int32) (x2 : Int32) (o_r : Int32) (RET : ∀ (pc : Nat) (H : Heap) (locs : List Loc) (ls : Array Slot) (v : Int32), decode cX0_vector pc = .ok (.ireturn, 1) → some v = some o_r → va_P (dC, dI) vwCl (wd_04c632 k n_t n_rows v_size v_stations r_rows) H → va_D A (wd_04c632 k n_t n_rows v_size v_stations r_rows) → va_S A s.heap H locs → W p l e rm_X0_vector s m args below meth c H locs 0 0 Q (F0 m pc ls [.int v])) (H : Heap) (locs : List Loc) (ls : Array Slot) (hl : lv_has ls 5 [(0, .ref n_t), (1, .int x1), (2, .int x2)]) (hP : va_P (dC, dI) vwCl (wd_04c632 k n_t n_rows v_size v_stations r_rows) H) (hD : va_D A (wd_04c632 k n_t n_rows v_size v_stations r_rows)) (hS : va_S A s.heap H locs) (hm : f_X0_vector x1 x2 r_rows = some o_r) : W p l e rm_X0_vector s m args below meth c H locs 0 0 Q (F0 m 0 ls []) := by
  have J_49 : ∀ (s0 : Int32) (s1 : Int32) (s2 : Int32) (H : Heap) (locs : List Loc) (ls : Array Slot), lv_has ls 5 [] → va_P (dC, dI) vwCl (wd_04c632 k n_t n_rows v_size v_stations r_rows) H → va_D A (wd_04c632 k n_t n_rows v_size v_stations r_rows) → va_S A s.heap H locs → f_X0_vector_J49 r_rows s0 s1 s2 = some o_r → W p l e rm_X0_vector s m args below meth c H locs 0 0 Q (F0 m 49 ls [.int s2, .int s1, .int s0]) := by
    intro s0 s1 s2 H locs ls hl hP hD hS hm
    unfold f_X0_vector_J49 at hm
    refine lv_iadd hx hb dX0_vector_49 ?_
    obtain ⟨r1, e2, hm⟩ := bnd1_some hm
    refine g_calli (w2 := (wd_04c632 k n_t n_rows v_size v_stations r_rows)) (va_runS (As := [.int (s1 + s2)]) (rest := [.int s0]) ⟨hx, hb, hml, hown, hts⟩ (m_X0_sine l dC dI k H.size  (s1 + s2) e2) (va_cwS 1 hts gX0_vector_X0_sine rfl rfl rfl (by decide +kernel) ⟨Nat.le_of_ble_eq_true rfl, Nat.le_of_ble_eq_true rfl⟩) (g_preS hG hP hD hS hA [] rfl (by decide)) rfl rfl hl.1 rfl (lv_room (Nat.le_of_ble_eq_true rfl)) dX0_vector_50 ⟨Nat.le_of_ble_eq_true rfl, Nat.le_of_ble_eq_true rfl⟩) hP hD hS hA [] [0, 1] [0, 1] rfl rfl (by decide) (by decide) rfl (by decide) (fun H locs hP hD hS => ?_)
    refine lv_imul hx hb dX0_vector_53 ?_
    refine lv_bipush (v := (100 : Int32)) hx hb dX0_vector_54 (by decide) ?_
    refine lv_idiv hx hb dX0_vector_56 (by decide) ?_
    exact RET _ _ _ _ _ dX0_vector_57 hm hP hD hS
  unfold f_X0_vector at hm
  refine lv_aload_n hx hb dX0_vector_0 rfl (lv_at hl 0 rfl) ?_
  refine lv_iload_n hx hb dX0_vector_1 rfl (lv_at hl 1 rfl) ?_
  refine lv_iconst (v := (0 : Int32)) hx hb dX0_vector_2 (by decide) ?_
  obtain ⟨r3, e4, hm⟩ := bnd1_some hm
  refine g_calli (w2 := (wd_04c632 k n_t n_rows v_size v_stations r_rows)) (va_runV (As := [.int x1, .int (0 : Int32)]) (rest := []) ⟨hx, hb, hml, hown, hts⟩ (m_X0_get l dC dI k H.size n_t n_rows v_size v_stations r_rows x1 (0 : Int32) e4) (cwV 2 hts gX0_vector_X0_get rfl rfl rfl (by decide +kernel) ⟨Nat.le_of_ble_eq_true rfl, Nat.le_of_ble_eq_true rfl⟩) (g_preV hG hP hD hS hA [0, 1] rfl (by decide) (ci := 0) (q0 := 0) rfl rfl) rfl rfl hl.1 rfl (lv_room (Nat.le_of_ble_eq_true rfl)) dX0_vector_3 ⟨Nat.le_of_ble_eq_true rfl, Nat.le_of_ble_eq_true rfl⟩) hP hD hS hA [0, 1] [] [0, 1] rfl rfl (by decide) (by decide) rfl (by decide) (fun H locs hP hD hS => ?_)
  refine lv_istore_n (lv' := [(3, .int r3), (0, .ref n_t), (1, .int x1), (2, .int x2)]) hx hb dX0_vector_6 rfl hl (by decide) rfl (fun ls hl => ?_)
  refine lv_aload_n hx hb dX0_vector_7 rfl (lv_at hl 1 rfl) ?_
  refine lv_iload_n hx hb dX0_vector_8 rfl (lv_at hl 2 rfl) ?_
  refine lv_iconst (v := (2 : Int32)) hx hb dX0_vector_9 (by decide) ?_
  obtain ⟨r5, e6, hm⟩ := bnd1_some hm
  refine g_calli (w2 := (wd_04c632 k n_t n_rows v_size v_stations r_rows)) (va_runV (As := [.int x1, .int (2 : Int32)]) (rest := []) ⟨hx, hb, hml, hown, hts⟩ (m_X0_get l dC dI k H.size n_t n_rows v_size v_stations r_rows x1 (2 : Int32) e6) (cwV 2 hts gX0_vector_X0_get rfl rfl rfl (by decide +kernel) ⟨Nat.le_of_ble_eq_true rfl, Nat.le_of_ble_eq_true rfl⟩) (g_preV hG hP hD hS hA [0, 1] rfl (by decide) (ci := 0) (q0 := 0) rfl rfl) rfl rfl hl.1 rfl (lv_room (Nat.le_of_ble_eq_true rfl)) dX0_vector_10 ⟨Nat.le_of_ble_eq_true rfl, Nat.le_of_ble_eq_true rfl⟩) hP hD hS hA [0, 1] [] [0, 1] rfl rfl (by decide) (by decide) rfl (by decide) (fun H locs hP hD hS => ?_)
  refine lv_istore (lv' := [(4, .int r5), (3, .int r3), (0, .ref n_t), (1, .int x1), (2, .int x2)]) hx hb dX0_vector_13 hl (by decide) rfl (fun ls hl => ?_)
  refine lv_iload_n hx hb dX0_vector_15 rfl (lv_at hl 4 rfl) ?_
  refine lv_iconst (v := (2 : Int32)) hx hb dX0_vector_16 (by decide) ?_
  refine lv_icmp_ne (tgt := 27) hx hb dX0_vector_17 (by decide) (fun c7 => ?_) (fun c7 => ?_)
  · replace hm := ifn c7 hm
    refine lv_iload_n hx hb dX0_vector_27 rfl (lv_at hl 1 rfl) ?_
    refine lv_iload hx hb dX0_vector_28 (lv_at hl 0 rfl) ?_
    obtain ⟨r8, e9, hm⟩ := bnd1_some hm
    refine g_calli (w2 := (wd_04c632 k n_t n_rows v_size v_stations r_rows)) (va_runS (As := [.int r3, .int r5]) (rest := []) ⟨hx, hb, hml, hown, hts⟩ (m_X0_level l dC dI k H.size  r3 r5 e9) (va_cwS 2 hts gX0_vector_X0_level rfl rfl rfl (by decide +kernel) ⟨Nat.le_of_ble_eq_true rfl, Nat.le_of_ble_eq_true rfl⟩) (g_preS hG hP hD hS hA [] rfl (by decide)) rfl rfl hl.1 rfl (lv_room (Nat.le_of_ble_eq_true rfl)) dX0_vector_30 ⟨Nat.le_of_ble_eq_true rfl, Nat.le_of_ble_eq_true rfl⟩) hP hD hS hA [] [0, 1] [0, 1] rfl rfl (by decide) (by decide) rfl (by decide) (fun H locs hP hD hS => ?_)
    refine lv_aload_n hx hb dX0_vector_33 rfl (lv_at hl 2 rfl) ?_
    refine lv_iload_n hx hb dX0_vector_34 rfl (lv_at hl 3 rfl) ?_
    refine lv_iconst (v := (1 : Int32)) hx hb dX0_vector_35 (by decide) ?_
    obtain ⟨r10, e11, hm⟩ := bnd1_some hm
    refine g_calli (w2 := (wd_04c632 k n_t n_rows v_size v_stations r_rows)) (va_runV (As := [.int x1, .int (1 : Int32)]) (rest := [.int r8]) ⟨hx, hb, hml, hown, hts⟩ (m_X0_get l dC dI k H.size n_t n_rows v_size v_stations r_rows x1 (1 : Int32) e11) (cwV 2 hts gX0_vector_X0_get rfl rfl rfl (by decide +kernel) ⟨Nat.le_of_ble_eq_true rfl, Nat.le_of_ble_eq_true rfl⟩) (g_preV hG hP hD hS hA [0, 1] rfl (by decide) (ci := 0) (q0 := 0) rfl rfl) rfl rfl hl.1 rfl (lv_room (Nat.le_of_ble_eq_true rfl)) dX0_vector_36 ⟨Nat.le_of_ble_eq_true rfl, Nat.le_of_ble_eq_true rfl⟩) hP hD hS hA [0, 1] [] [0, 1] rfl rfl (by decide) (by decide) rfl (by decide) (fun H locs hP hD hS => ?_)
    refine lv_iload_n hx hb dX0_vector_39 rfl (lv_at hl 4 rfl) ?_
    refine lv_iconst (v := (1 : Int32)) hx hb dX0_vector_40 (by decide) ?_
    refine lv_icmp_ne (tgt := 48) hx hb dX0_vector_41 (by decide) (fun c12 => ?_) (fun c12 => ?_)
    · replace hm := ifn c12 hm
      refine lv_iconst (v := (0 : Int32)) hx hb dX0_vector_48 (by decide) ?_
      exact J_49 _ _ _ _ _ _ (lv_sub hl [] rfl) hP hD hS hm
    · replace hm := ifp c12 hm
      refine lv_iconst (v := (3 : Int32)) hx hb dX0_vector_44 (by decide) ?_
      refine lv_goto (tgt := 49) hx hb dX0_vector_45 (by decide) ?_
      exact J_49 _ _ _ _ _ _ (lv_sub hl [] rfl) hP hD hS hm
  · replace hm := ifp c7 hm
    refine lv_iload_n hx hb dX0_vector_20 rfl (lv_at hl 1 rfl) ?_
    refine lv_iload hx hb dX0_vector_21 (lv_at hl 0 rfl) ?_
    obtain ⟨r13, e14, hm⟩ := bnd1_some hm
    refine g_calli (w2 := (wd_04c632 k n_t n_rows v_size v_stations r_rows)) (va_runS (As := [.int r3, .int r5]) (rest := []) ⟨hx, hb, hml, hown, hts⟩ (m_X0_rise l dC dI k H.size  r3 r5 e14) (va_cwS 2 hts gX0_vector_X0_rise rfl rfl rfl (by decide +kernel) ⟨Nat.le_of_ble_eq_true rfl, Nat.le_of_ble_eq_true rfl⟩) (g_preS hG hP hD hS hA [] rfl (by decide)) rfl rfl hl.1 rfl (lv_room (Nat.le_of_ble_eq_true rfl)) dX0_vector_23 ⟨Nat.le_of_ble_eq_true rfl, Nat.le_of_ble_eq_true rfl⟩) hP hD hS hA [] [0, 1] [0, 1] rfl rfl (by decide) (by decide) rfl (by decide) (fun H locs hP hD hS => ?_)
    exact RET _ _ _ _ _ dX0_vector_26 hm hP hD hS
set_option maxRecDepth 100000 in
theorem m_X0_vector (l : Launch) (dC : Nat → ClassId) (dI : Nat → Nat → Nat) (k : Nat → ClassId) (sz : Nat) (n_t n_rows : Nat) (v_size : Int32) (v_stations : Int32) (r_rows : Nat → Int32) (x1 : Int32) (x2 : Int32) {o_r : Int32} (hm : f_X0_vector x1 x2 r_rows = some o_r) : Met l yX0_vector wsX0_vector rm_X0_vector (gPre dC dI k [.ref n_t, .int x1, .int x2] sz (wd_04c632 k n_t n_rows v_size v_stations r_rows)) (gQI dC dI (va_A (wd_04c632 k n_t n_rows v_size v_stations r_rows) sz) o_r (wd_04c632 k n_t n_rows v_size v_stations r_rows)) 0 0 (va_A (wd_04c632 k n_t n_rows v_size v_stations r_rows) sz) := by
  refine g_entry (cc := cX0_vector) (maxL := 5) (ret := (some .int)) (lv := [(0, .ref n_t), (1, .int x1), (2, .int x2)]) (by decide +kernel) rfl (Nat.le_of_ble_eq_true rfl) rfl (fun p e s m below meth c ls hx hb hr hml hts hown hlk hnm hsz hG hA hP hD hS hl => ?_)
  exact k_X0_vector hx hb hml hts hown hG hA n_t n_rows v_size v_stations r_rows x1 x2 o_r (fun pc H locs ls v hd ho hP hD hS => by cases ho; exact g_ireti hx hb hr hlk hP hD hS hd) s.heap [] ls hl hP hD hS hm
end
section
set_option maxHeartbeats 4000000 in
set_option maxRecDepth 100000 in
theorem k_X0_all {p : Program} {l : Launch} {e : Env} {s : State} {m : MethodId} {args : Array Value} {below : List Frame} {meth : Method} {c : Code} {A : Nat → Prop} {Q : State → Prop} {dC : Nat → ClassId} {dI : Nat → Nat → Nat} {k : Nat → ClassId} (hx : p.tables.exec = Jvm.exec) (hb : c.code = cX0_all) (hml : c.maxLocals = 1) (hts : ∀ w ∈ wsX0_all, w.before args s = true) (hown : s.vm.findClass RX0 = some m.cls) (hG : gK dC dI k A s) (hA : ∀ q : Nat, s.heap.size ≤ q → A q) (n_t n_rows : Nat) (v_size : Int32) (v_stations : Int32) (o_r : Int32) (RET : ∀ (pc : Nat) (H : Heap) (locs : List Loc) (ls : Array Slot) (v : Int32), decode cX0_all pc = .ok (.ireturn, 1) → some v = some o_r → va_P (dC, dI) vwCl (wd_9ad9d1 k n_t n_rows v_size v_stations) H → va_D A (wd_9ad9d1 k n_t n_rows v_size v_stations) → va_S A s.heap H locs → W p l e rm_X0_all s m args below meth c H locs 0 0 Q (F0 m pc ls [.int v])) (H : Heap) (locs : List Loc) (ls : Array Slot) (hl : lv_has ls 1 [(0, .ref n_t)]) (hP : va_P (dC, dI) vwCl (wd_9ad9d1 k n_t n_rows v_size v_stations) H) (hD : va_D A (wd_9ad9d1 k n_t n_rows v_size v_stations)) (hS : va_S A s.heap H locs) (hm : f_X0_all v_size = some o_r) : W p l e rm_X0_all s m args below meth c H locs 0 0 Q (F0 m 0 ls []) := by
  have hinX0 : ∀ w ∈ u_ws RX0 TX0 3, w ∈ wsX0_all := by decide +kernel
  have k0 := hts (.fieldLink RX0 19 "CaveLegs$Legs" "size" "I") (by decide +kernel)
  unfold f_X0_all at hm
  refine lv_iconst (v := (1 : Int32)) hx hb dX0_all_0 (by decide) ?_
  refine lv_aload_n hx hb dX0_all_1 rfl (lv_at hl 0 rfl) ?_
  refine va_get (D := (dC, dI)) (ci := 0) (v := .int v_size) (C := RX0) (T := TX0) (N := 3) hx hb hts hinX0 hown hG.1 hP 0 rfl rfl 1 (by decide) k0 (fun _ h9 => h9) rfl dX0_all_2 ?_
  refine g_ishl hx hb dX0_all_5 ?_
  refine lv_iconst (v := (1 : Int32)) hx hb dX0_all_6 (by decide) ?_
  refine lv_isub hx hb dX0_all_7 ?_
  exact RET _ _ _ _ _ dX0_all_8 hm hP hD hS
set_option maxRecDepth 100000 in
theorem m_X0_all (l : Launch) (dC : Nat → ClassId) (dI : Nat → Nat → Nat) (k : Nat → ClassId) (sz : Nat) (n_t n_rows : Nat) (v_size : Int32) (v_stations : Int32) {o_r : Int32} (hm : f_X0_all v_size = some o_r) : Met l yX0_all wsX0_all rm_X0_all (gPre dC dI k [.ref n_t] sz (wd_9ad9d1 k n_t n_rows v_size v_stations)) (gQI dC dI (va_A (wd_9ad9d1 k n_t n_rows v_size v_stations) sz) o_r (wd_9ad9d1 k n_t n_rows v_size v_stations)) 0 0 (va_A (wd_9ad9d1 k n_t n_rows v_size v_stations) sz) := by
  refine g_entry (cc := cX0_all) (maxL := 1) (ret := (some .int)) (lv := [(0, .ref n_t)]) (by decide +kernel) rfl (Nat.le_of_ble_eq_true rfl) rfl (fun p e s m below meth c ls hx hb hr hml hts hown hlk hnm hsz hG hA hP hD hS hl => ?_)
  exact k_X0_all hx hb hml hts hown hG hA n_t n_rows v_size v_stations o_r (fun pc H locs ls v hd ho hP hD hS => by cases ho; exact g_ireti hx hb hr hlk hP hD hS hd) s.heap [] ls hl hP hD hS hm
end
section
set_option maxHeartbeats 4000000 in
set_option maxRecDepth 100000 in
theorem k_X0_open {p : Program} {l : Launch} {e : Env} {s : State} {m : MethodId} {args : Array Value} {below : List Frame} {meth : Method} {c : Code} {A : Nat → Prop} {Q : State → Prop} {dC : Nat → ClassId} {dI : Nat → Nat → Nat} {k : Nat → ClassId} (hx : p.tables.exec = Jvm.exec) (hb : c.code = cX0_open) (hml : c.maxLocals = 4) (hts : ∀ w ∈ wsX0_open, w.before args s = true) (hown : s.vm.findClass RX0 = some m.cls) (hG : gK dC dI k A s) (hA : ∀ q : Nat, s.heap.size ≤ q → A q) (F : Nat) (n_t n_rows : Nat) (v_size : Int32) (v_stations : Int32) (r_rows : Nat → Int32) (x1 : Int32) (o_r : Int32) (RET : ∀ (pc : Nat) (H : Heap) (locs : List Loc) (ls : Array Slot) (v : Int32), decode cX0_open pc = .ok (.ireturn, 1) → some v = some o_r → va_P (dC, dI) vwCl (wd_04c632 k n_t n_rows v_size v_stations r_rows) H → va_D A (wd_04c632 k n_t n_rows v_size v_stations r_rows) → va_S A s.heap H locs → W p l e rm_X0_open s m args below meth c H locs 0 0 Q (F0 m pc ls [.int v])) (H : Heap) (locs : List Loc) (ls : Array Slot) (hl : lv_has ls 4 [(0, .ref n_t), (1, .int x1)]) (hP : va_P (dC, dI) vwCl (wd_04c632 k n_t n_rows v_size v_stations r_rows) H) (hD : va_D A (wd_04c632 k n_t n_rows v_size v_stations r_rows)) (hS : va_S A s.heap H locs) (hm : f_X0_open F x1 v_size r_rows = some o_r) : W p l e rm_X0_open s m args below meth c H locs 0 0 Q (F0 m 0 ls []) := by
  have hinX0 : ∀ w ∈ u_ws RX0 TX0 3, w ∈ wsX0_open := by decide +kernel
  have k0 := hts (.fieldLink RX0 19 "CaveLegs$Legs" "size" "I") (by decide +kernel)
  have L_4 : ∀ (n4 : Nat) (x1 : Int32) (x2 : Int32) (x3 : Int32) (H : Heap) (locs : List Loc) (ls : Array Slot), lv_has ls 4 [(0, .ref n_t), (1, .int x1), (2, .int x2), (3, .int x3)] → va_P (dC, dI) vwCl (wd_04c632 k n_t n_rows v_size v_stations r_rows) H → va_D A (wd_04c632 k n_t n_rows v_size v_stations r_rows) → va_S A s.heap H locs → f_X0_open_L4 F v_size r_rows n4 x1 x2 x3 = some o_r → W p l e rm_X0_open s m args below meth c H locs 0 0 Q (F0 m 4 ls []) := by
    intro n4
    induction n4 with
    | zero =>
      intro x1 x2 x3 H locs ls hl hP hD hS hm
      exact non_some hm
    | succ n4 ih4 =>
      have J_38 : ∀ (x1 : Int32) (x2 : Int32) (x3 : Int32) (H : Heap) (locs : List Loc) (ls : Array Slot), lv_has ls 4 [(0, .ref n_t), (1, .int x1), (2, .int x2), (3, .int x3)] → va_P (dC, dI) vwCl (wd_04c632 k n_t n_rows v_size v_stations r_rows) H → va_D A (wd_04c632 k n_t n_rows v_size v_stations r_rows) → va_S A s.heap H locs → f_X0_open_J38 F v_size r_rows (f_X0_open_L4 F v_size r_rows n4) x1 x2 x3 = some o_r → W p l e rm_X0_open s m args below meth c H locs 0 0 Q (F0 m 38 ls []) := by
        intro x1 x2 x3 H locs ls hl hP hD hS hm
        unfold f_X0_open_J38 at hm
        obtain ⟨t1, et1⟩ : ∃ y : Int32, y = x3 + (1 : Int32) := ⟨_, rfl⟩
        replace hm := (nmd_eq et1).trans hm
        refine lv_iinc (v := t1) (lv' := [(3, .int t1), (0, .ref n_t), (1, .int x1), (2, .int x2)]) hx hb dX0_open_38 hl (k := 3) rfl (by rw [et1]; rfl) (by decide) rfl (fun ls hl => ?_)
        refine lv_goto (tgt := 4) hx hb dX0_open_41 (by decide) ?_
        exact ih4 _ _ _ _ _ _ (lv_sub hl [1, 2, 3, 0] rfl) hP hD hS hm
      intro x1 x2 x3 H locs ls hl hP hD hS hm
      replace hm : f_X0_open_B4 F v_size r_rows (f_X0_open_L4 F v_size r_rows n4) x1 x2 x3 = some o_r := hm
      unfold f_X0_open_B4 at hm
      refine lv_iload_n hx hb dX0_open_4 rfl (lv_at hl 3 rfl) ?_
      refine lv_aload_n hx hb dX0_open_5 rfl (lv_at hl 0 rfl) ?_
      refine va_get (D := (dC, dI)) (ci := 0) (v := .int v_size) (C := RX0) (T := TX0) (N := 3) hx hb hts hinX0 hown hG.1 hP 0 rfl rfl 1 (by decide) k0 (fun _ h9 => h9) rfl dX0_open_6 ?_
      refine lv_icmp_ge (tgt := 44) hx hb dX0_open_9 (by decide) (fun c2 => ?_) (fun c2 => ?_)
      · replace hm := ifp c2 hm
        refine lv_iload_n hx hb dX0_open_44 rfl (lv_at hl 2 rfl) ?_
        exact RET _ _ _ _ _ dX0_open_45 hm hP hD hS
      · replace hm := ifn c2 hm
        refine lv_aload_n hx hb dX0_open_12 rfl (lv_at hl 0 rfl) ?_
        refine lv_iload_n hx hb dX0_open_13 rfl (lv_at hl 3 rfl) ?_
        refine lv_bipush (v := (6 : Int32)) hx hb dX0_open_14 (by decide) ?_
        obtain ⟨r3, e4, hm⟩ := bnd1_some hm
        refine g_calli (w2 := (wd_04c632 k n_t n_rows v_size v_stations r_rows)) (va_runV (As := [.int x3, .int (6 : Int32)]) (rest := []) ⟨hx, hb, hml, hown, hts⟩ (m_X0_get l dC dI k H.size n_t n_rows v_size v_stations r_rows x3 (6 : Int32) e4) (cwV 2 hts gX0_open_X0_get rfl rfl rfl (by decide +kernel) ⟨Nat.le_of_ble_eq_true rfl, Nat.le_of_ble_eq_true rfl⟩) (g_preV hG hP hD hS hA [0, 1] rfl (by decide) (ci := 0) (q0 := 0) rfl rfl) rfl rfl hl.1 rfl (lv_room (Nat.le_of_ble_eq_true rfl)) dX0_open_16 ⟨Nat.le_of_ble_eq_true rfl, Nat.le_of_ble_eq_true rfl⟩) hP hD hS hA [0, 1] [] [0, 1] rfl rfl (by decide) (by decide) rfl (by decide) (fun H locs hP hD hS => ?_)
        refine lv_if_ne (tgt := 38) hx hb dX0_open_19 (by decide) (fun c5 => ?_) (fun c5 => ?_)
        · replace hm := ifn c5 hm
          exact J_38 _ _ _ _ _ _ (lv_sub hl [0, 1, 2, 3] rfl) hP hD hS hm
        · replace hm := ifp c5 hm
          refine lv_aload_n hx hb dX0_open_22 rfl (lv_at hl 0 rfl) ?_
          refine lv_iload_n hx hb dX0_open_23 rfl (lv_at hl 3 rfl) ?_
          refine lv_iconst (v := (3 : Int32)) hx hb dX0_open_24 (by decide) ?_
          obtain ⟨r6, e7, hm⟩ := bnd1_some hm
          refine g_calli (w2 := (wd_04c632 k n_t n_rows v_size v_stations r_rows)) (va_runV (As := [.int x3, .int (3 : Int32)]) (rest := []) ⟨hx, hb, hml, hown, hts⟩ (m_X0_get l dC dI k H.size n_t n_rows v_size v_stations r_rows x3 (3 : Int32) e7) (cwV 2 hts gX0_open_X0_get rfl rfl rfl (by decide +kernel) ⟨Nat.le_of_ble_eq_true rfl, Nat.le_of_ble_eq_true rfl⟩) (g_preV hG hP hD hS hA [0, 1] rfl (by decide) (ci := 0) (q0 := 0) rfl rfl) rfl rfl hl.1 rfl (lv_room (Nat.le_of_ble_eq_true rfl)) dX0_open_25 ⟨Nat.le_of_ble_eq_true rfl, Nat.le_of_ble_eq_true rfl⟩) hP hD hS hA [0, 1] [] [0, 1] rfl rfl (by decide) (by decide) rfl (by decide) (fun H locs hP hD hS => ?_)
          refine lv_iload_n hx hb dX0_open_28 rfl (lv_at hl 1 rfl) ?_
          refine lv_icmp_lt (tgt := 38) hx hb dX0_open_29 (by decide) (fun c8 => ?_) (fun c8 => ?_)
          · replace hm := ifp c8 hm
            exact J_38 _ _ _ _ _ _ (lv_sub hl [0, 1, 2, 3] rfl) hP hD hS hm
          · replace hm := ifn c8 hm
            refine lv_iload_n hx hb dX0_open_32 rfl (lv_at hl 2 rfl) ?_
            refine lv_iconst (v := (1 : Int32)) hx hb dX0_open_33 (by decide) ?_
            refine lv_iload_n hx hb dX0_open_34 rfl (lv_at hl 3 rfl) ?_
            refine g_ishl hx hb dX0_open_35 ?_
            refine lv_ior hx hb dX0_open_36 ?_
            refine lv_topi (fun t9 et9 => ?_)
            replace hm := (nmd_eq et9).trans hm
            refine lv_istore_n (lv' := [(2, .int t9), (0, .ref n_t), (1, .int x1), (3, .int x3)]) hx hb dX0_open_37 rfl hl (by decide) rfl (fun ls hl => ?_)
            exact J_38 _ _ _ _ _ _ (lv_sub hl [1, 2, 0, 3] rfl) hP hD hS hm
  unfold f_X0_open at hm
  refine lv_iconst (v := (0 : Int32)) hx hb dX0_open_0 (by decide) ?_
  refine lv_istore_n (lv' := [(2, .int (0 : Int32)), (0, .ref n_t), (1, .int x1)]) hx hb dX0_open_1 rfl hl (by decide) rfl (fun ls hl => ?_)
  refine lv_iconst (v := (0 : Int32)) hx hb dX0_open_2 (by decide) ?_
  refine lv_istore_n (lv' := [(3, .int (0 : Int32)), (2, .int (0 : Int32)), (0, .ref n_t), (1, .int x1)]) hx hb dX0_open_3 rfl hl (by decide) rfl (fun ls hl => ?_)
  exact L_4 F _ _ _ _ _ _ (lv_sub hl [2, 3, 1, 0] rfl) hP hD hS hm
set_option maxRecDepth 100000 in
theorem m_X0_open (l : Launch) (dC : Nat → ClassId) (dI : Nat → Nat → Nat) (k : Nat → ClassId) (F : Nat) (sz : Nat) (n_t n_rows : Nat) (v_size : Int32) (v_stations : Int32) (r_rows : Nat → Int32) (x1 : Int32) {o_r : Int32} (hm : f_X0_open F x1 v_size r_rows = some o_r) : Met l yX0_open wsX0_open rm_X0_open (gPre dC dI k [.ref n_t, .int x1] sz (wd_04c632 k n_t n_rows v_size v_stations r_rows)) (gQI dC dI (va_A (wd_04c632 k n_t n_rows v_size v_stations r_rows) sz) o_r (wd_04c632 k n_t n_rows v_size v_stations r_rows)) 0 0 (va_A (wd_04c632 k n_t n_rows v_size v_stations r_rows) sz) := by
  refine g_entry (cc := cX0_open) (maxL := 4) (ret := (some .int)) (lv := [(0, .ref n_t), (1, .int x1)]) (by decide +kernel) rfl (Nat.le_of_ble_eq_true rfl) rfl (fun p e s m below meth c ls hx hb hr hml hts hown hlk hnm hsz hG hA hP hD hS hl => ?_)
  exact k_X0_open hx hb hml hts hown hG hA F n_t n_rows v_size v_stations r_rows x1 o_r (fun pc H locs ls v hd ho hP hD hS => by cases ho; exact g_ireti hx hb hr hlk hP hD hS hd) s.heap [] ls hl hP hD hS hm
end
section
set_option maxHeartbeats 4000000 in
set_option maxRecDepth 100000 in
theorem k_X0_spread {p : Program} {l : Launch} {e : Env} {s : State} {m : MethodId} {args : Array Value} {below : List Frame} {meth : Method} {c : Code} {A : Nat → Prop} {Q : State → Prop} {dC : Nat → ClassId} {dI : Nat → Nat → Nat} {k : Nat → ClassId} (hx : p.tables.exec = Jvm.exec) (hb : c.code = cX0_spread) (hml : c.maxLocals = 8) (hts : ∀ w ∈ wsX0_spread, w.before args s = true) (hown : s.vm.findClass RX0 = some m.cls) (hG : gK dC dI k A s) (hA : ∀ q : Nat, s.heap.size ≤ q → A q) (F : Nat) (n_t n_rows : Nat) (v_size : Int32) (v_stations : Int32) (r_rows : Nat → Int32) (x1 : Int32) (x2 : Int32) (o_r : Int32) (RET : ∀ (pc : Nat) (H : Heap) (locs : List Loc) (ls : Array Slot) (v : Int32), decode cX0_spread pc = .ok (.ireturn, 1) → some v = some o_r → va_P (dC, dI) vwCl (wd_04c632 k n_t n_rows v_size v_stations r_rows) H → va_D A (wd_04c632 k n_t n_rows v_size v_stations r_rows) → va_S A s.heap H locs → W p l e rm_X0_spread s m args below meth c H locs 0 0 Q (F0 m pc ls [.int v])) (H : Heap) (locs : List Loc) (ls : Array Slot) (hl : lv_has ls 8 [(0, .ref n_t), (1, .int x1), (2, .int x2)]) (hP : va_P (dC, dI) vwCl (wd_04c632 k n_t n_rows v_size v_stations r_rows) H) (hD : va_D A (wd_04c632 k n_t n_rows v_size v_stations r_rows)) (hS : va_S A s.heap H locs) (hm : f_X0_spread F x1 x2 r_rows = some o_r) : W p l e rm_X0_spread s m args below meth c H locs 0 0 Q (F0 m 0 ls []) := by
  have hinX0 : ∀ w ∈ u_ws RX0 TX0 3, w ∈ wsX0_spread := by decide +kernel
  have k0 := hts (.fieldLink RX0 11 "CaveLegs$Legs" "rows" "[I") (by decide +kernel)
  have L_5 : ∀ (n5 : Nat) (x1 : Int32) (x3 : Int32) (x4 : Int32) (H : Heap) (locs : List Loc) (ls : Array Slot), lv_has ls 8 [(0, .ref n_t), (1, .int x1), (3, .int x3), (4, .int x4)] → va_P (dC, dI) vwCl (wd_04c632 k n_t n_rows v_size v_stations r_rows) H → va_D A (wd_04c632 k n_t n_rows v_size v_stations r_rows) → va_S A s.heap H locs → f_X0_spread_L5 F r_rows n5 x1 x3 x4 = some o_r → W p l e rm_X0_spread s m args below meth c H locs 0 0 Q (F0 m 5 ls []) := by
    intro n5
    induction n5 with
    | zero =>
      intro x1 x3 x4 H locs ls hl hP hD hS hm
      exact non_some hm
    | succ n5 ih5 =>
      have L_22 : ∀ (n22 : Nat) (x1 : Int32) (x3 : Int32) (x4 : Int32) (x5 : Int32) (x6 : Int32) (x7 : Int32) (H : Heap) (locs : List Loc) (ls : Array Slot), lv_has ls 8 [(0, .ref n_t), (1, .int x1), (3, .int x3), (4, .int x4), (5, .int x5), (6, .int x6), (7, .int x7)] → va_P (dC, dI) vwCl (wd_04c632 k n_t n_rows v_size v_stations r_rows) H → va_D A (wd_04c632 k n_t n_rows v_size v_stations r_rows) → va_S A s.heap H locs → f_X0_spread_L22 F r_rows (f_X0_spread_L5 F r_rows n5) n22 x1 x3 x4 x5 x6 x7 = some o_r → W p l e rm_X0_spread s m args below meth c H locs 0 0 Q (F0 m 22 ls []) := by
        intro n22
        induction n22 with
        | zero =>
          intro x1 x3 x4 x5 x6 x7 H locs ls hl hP hD hS hm
          exact non_some hm
        | succ n22 ih22 =>
          have J_63 : ∀ (x1 : Int32) (x3 : Int32) (x4 : Int32) (x5 : Int32) (x6 : Int32) (x7 : Int32) (H : Heap) (locs : List Loc) (ls : Array Slot), lv_has ls 8 [(0, .ref n_t), (1, .int x1), (3, .int x3), (4, .int x4), (5, .int x5), (6, .int x6), (7, .int x7)] → va_P (dC, dI) vwCl (wd_04c632 k n_t n_rows v_size v_stations r_rows) H → va_D A (wd_04c632 k n_t n_rows v_size v_stations r_rows) → va_S A s.heap H locs → f_X0_spread_J63 F r_rows (f_X0_spread_L5 F r_rows n5) (f_X0_spread_L22 F r_rows (f_X0_spread_L5 F r_rows n5) n22) x1 x3 x4 x5 x6 x7 = some o_r → W p l e rm_X0_spread s m args below meth c H locs 0 0 Q (F0 m 63 ls []) := by
            intro x1 x3 x4 x5 x6 x7 H locs ls hl hP hD hS hm
            unfold f_X0_spread_J63 at hm
            obtain ⟨t1, et1⟩ : ∃ y : Int32, y = x6 + (8 : Int32) := ⟨_, rfl⟩
            replace hm := (nmd_eq et1).trans hm
            refine lv_iinc (v := t1) (lv' := [(6, .int t1), (0, .ref n_t), (1, .int x1), (3, .int x3), (4, .int x4), (5, .int x5), (7, .int x7)]) hx hb dX0_spread_63 hl (k := 5) rfl (by rw [et1]; rfl) (by decide) rfl (fun ls hl => ?_)
            obtain ⟨t2, et2⟩ : ∃ y : Int32, y = x7 + (1 : Int32) := ⟨_, rfl⟩
            replace hm := (nmd_eq et2).trans hm
            refine lv_iinc (v := t2) (lv' := [(7, .int t2), (6, .int t1), (0, .ref n_t), (1, .int x1), (3, .int x3), (4, .int x4), (5, .int x5)]) hx hb dX0_spread_66 hl (k := 6) rfl (by rw [et2]; rfl) (by decide) rfl (fun ls hl => ?_)
            refine lv_goto (tgt := 22) hx hb dX0_spread_69 (by decide) ?_
            exact ih22 _ _ _ _ _ _ _ _ _ (lv_sub hl [2, 3, 4, 5, 6, 1, 0] rfl) hP hD hS hm
          intro x1 x3 x4 x5 x6 x7 H locs ls hl hP hD hS hm
          replace hm : f_X0_spread_B22 F r_rows (f_X0_spread_L5 F r_rows n5) (f_X0_spread_L22 F r_rows (f_X0_spread_L5 F r_rows n5) n22) x1 x3 x4 x5 x6 x7 = some o_r := hm
          unfold f_X0_spread_B22 at hm
          refine lv_iload hx hb dX0_spread_22 (lv_at hl 5 rfl) ?_
          refine lv_aload_n hx hb dX0_spread_24 rfl (lv_at hl 0 rfl) ?_
          refine va_get (D := (dC, dI)) (ci := 0) (v := .ref n_rows) (C := RX0) (T := TX0) (N := 3) hx hb hts hinX0 hown hG.1 hP 0 rfl rfl 0 (by decide) k0 (fun _ h9 => h9) rfl dX0_spread_25 ?_
          refine va_alen (v := (64 : Int32)) hx hb hG.1 hP 1 0 rfl rfl rfl dX0_spread_28 ?_
          refine lv_icmp_ge (tgt := 72) hx hb dX0_spread_29 (by decide) (fun c3 => ?_) (fun c3 => ?_)
          · replace hm := ifp c3 hm
            refine lv_iload_n hx hb dX0_spread_72 rfl (lv_at hl 2 rfl) ?_
            refine lv_iload hx hb dX0_spread_73 (lv_at hl 4 rfl) ?_
            refine lv_icmp_ne (tgt := 80) hx hb dX0_spread_75 (by decide) (fun c4 => ?_) (fun c4 => ?_)
            · replace hm := ifn c4 hm
              obtain ⟨t5, et5⟩ : ∃ y : Int32, y = x4 + (1 : Int32) := ⟨_, rfl⟩
              replace hm := (nmd_eq et5).trans hm
              refine lv_iinc (v := t5) (lv' := [(4, .int t5), (0, .ref n_t), (1, .int x1), (3, .int x3), (5, .int x5), (6, .int x6), (7, .int x7)]) hx hb dX0_spread_80 hl (k := 3) rfl (by rw [et5]; rfl) (by decide) rfl (fun ls hl => ?_)
              refine lv_goto (tgt := 5) hx hb dX0_spread_83 (by decide) ?_
              exact ih5 _ _ _ _ _ _ (lv_sub hl [1, 2, 3, 0] rfl) hP hD hS hm
            · replace hm := ifp c4 hm
              refine lv_iload_n hx hb dX0_spread_78 rfl (lv_at hl 2 rfl) ?_
              exact RET _ _ _ _ _ dX0_spread_79 hm hP hD hS
          · replace hm := ifn c3 hm
            refine lv_iload_n hx hb dX0_spread_32 rfl (lv_at hl 1 rfl) ?_
            refine lv_iload hx hb dX0_spread_33 (lv_at hl 6 rfl) ?_
            refine g_ishr hx hb dX0_spread_35 ?_
            refine lv_iconst (v := (1 : Int32)) hx hb dX0_spread_36 (by decide) ?_
            refine lv_iand hx hb dX0_spread_37 ?_
            refine lv_if_eq (tgt := 63) hx hb dX0_spread_38 (by decide) (fun c6 => ?_) (fun c6 => ?_)
            · replace hm := ifp c6 hm
              exact J_63 _ _ _ _ _ _ _ _ _ (lv_sub hl [0, 1, 2, 3, 4, 5, 6] rfl) hP hD hS hm
            · replace hm := ifn c6 hm
              refine lv_aload_n hx hb dX0_spread_41 rfl (lv_at hl 0 rfl) ?_
              refine va_get (D := (dC, dI)) (ci := 0) (v := .ref n_rows) (C := RX0) (T := TX0) (N := 3) hx hb hts hinX0 hown hG.1 hP 0 rfl rfl 0 (by decide) k0 (fun _ h9 => h9) rfl dX0_spread_42 ?_
              refine lv_iload hx hb dX0_spread_45 (lv_at hl 5 rfl) ?_
              obtain ⟨hi7, hm⟩ := chk_some hm
              refine va_iald hx hb hG.1 hP 1 0 rfl rfl hi7 dX0_spread_47 ?_
              refine lv_iload_n hx hb dX0_spread_48 rfl (lv_at hl 2 rfl) ?_
              refine lv_iand hx hb dX0_spread_49 ?_
              refine lv_if_eq (tgt := 63) hx hb dX0_spread_50 (by decide) (fun c8 => ?_) (fun c8 => ?_)
              · replace hm := ifp c8 hm
                exact J_63 _ _ _ _ _ _ _ _ _ (lv_sub hl [0, 1, 2, 3, 4, 5, 6] rfl) hP hD hS hm
              · replace hm := ifn c8 hm
                refine lv_iload_n hx hb dX0_spread_53 rfl (lv_at hl 2 rfl) ?_
                refine lv_aload_n hx hb dX0_spread_54 rfl (lv_at hl 0 rfl) ?_
                refine va_get (D := (dC, dI)) (ci := 0) (v := .ref n_rows) (C := RX0) (T := TX0) (N := 3) hx hb hts hinX0 hown hG.1 hP 0 rfl rfl 0 (by decide) k0 (fun _ h9 => h9) rfl dX0_spread_55 ?_
                refine lv_iload hx hb dX0_spread_58 (lv_at hl 5 rfl) ?_
                obtain ⟨hi9, hm⟩ := chk_some hm
                refine va_iald hx hb hG.1 hP 1 0 rfl rfl hi9 dX0_spread_60 ?_
                refine lv_ior hx hb dX0_spread_61 ?_
                refine lv_topi (fun t10 et10 => ?_)
                replace hm := (nmd_eq et10).trans hm
                refine lv_istore_n (lv' := [(3, .int t10), (0, .ref n_t), (1, .int x1), (4, .int x4), (5, .int x5), (6, .int x6), (7, .int x7)]) hx hb dX0_spread_62 rfl hl (by decide) rfl (fun ls hl => ?_)
                exact J_63 _ _ _ _ _ _ _ _ _ (lv_sub hl [1, 2, 0, 3, 4, 5, 6] rfl) hP hD hS hm
      intro x1 x3 x4 H locs ls hl hP hD hS hm
      replace hm : f_X0_spread_B5 F r_rows (f_X0_spread_L5 F r_rows n5) x1 x3 x4 = some o_r := hm
      unfold f_X0_spread_B5 at hm
      refine lv_iload hx hb dX0_spread_5 (lv_at hl 3 rfl) ?_
      refine lv_bipush (v := (6 : Int32)) hx hb dX0_spread_7 (by decide) ?_
      refine lv_icmp_ge (tgt := 86) hx hb dX0_spread_9 (by decide) (fun c11 => ?_) (fun c11 => ?_)
      · replace hm := ifp c11 hm
        refine lv_iload_n hx hb dX0_spread_86 rfl (lv_at hl 2 rfl) ?_
        exact RET _ _ _ _ _ dX0_spread_87 hm hP hD hS
      · replace hm := ifn c11 hm
        refine lv_iload_n hx hb dX0_spread_12 rfl (lv_at hl 2 rfl) ?_
        refine lv_istore (lv' := [(5, .int x3), (0, .ref n_t), (1, .int x1), (3, .int x3), (4, .int x4)]) hx hb dX0_spread_13 hl (by decide) rfl (fun ls hl => ?_)
        refine lv_bipush (v := (7 : Int32)) hx hb dX0_spread_15 (by decide) ?_
        refine lv_istore (lv' := [(6, .int (7 : Int32)), (5, .int x3), (0, .ref n_t), (1, .int x1), (3, .int x3), (4, .int x4)]) hx hb dX0_spread_17 hl (by decide) rfl (fun ls hl => ?_)
        refine lv_iconst (v := (0 : Int32)) hx hb dX0_spread_19 (by decide) ?_
        refine lv_istore (lv' := [(7, .int (0 : Int32)), (6, .int (7 : Int32)), (5, .int x3), (0, .ref n_t), (1, .int x1), (3, .int x3), (4, .int x4)]) hx hb dX0_spread_20 hl (by decide) rfl (fun ls hl => ?_)
        exact L_22 F _ _ _ _ _ _ _ _ _ (lv_sub hl [3, 4, 5, 6, 2, 1, 0] rfl) hP hD hS hm
  unfold f_X0_spread at hm
  refine lv_iload_n hx hb dX0_spread_0 rfl (lv_at hl 2 rfl) ?_
  refine lv_istore_n (lv' := [(3, .int x2), (0, .ref n_t), (1, .int x1), (2, .int x2)]) hx hb dX0_spread_1 rfl hl (by decide) rfl (fun ls hl => ?_)
  refine lv_iconst (v := (0 : Int32)) hx hb dX0_spread_2 (by decide) ?_
  refine lv_istore (lv' := [(4, .int (0 : Int32)), (3, .int x2), (0, .ref n_t), (1, .int x1), (2, .int x2)]) hx hb dX0_spread_3 hl (by decide) rfl (fun ls hl => ?_)
  exact L_5 F _ _ _ _ _ _ (lv_sub hl [2, 3, 1, 0] rfl) hP hD hS hm
set_option maxRecDepth 100000 in
theorem m_X0_spread (l : Launch) (dC : Nat → ClassId) (dI : Nat → Nat → Nat) (k : Nat → ClassId) (F : Nat) (sz : Nat) (n_t n_rows : Nat) (v_size : Int32) (v_stations : Int32) (r_rows : Nat → Int32) (x1 : Int32) (x2 : Int32) {o_r : Int32} (hm : f_X0_spread F x1 x2 r_rows = some o_r) : Met l yX0_spread wsX0_spread rm_X0_spread (gPre dC dI k [.ref n_t, .int x1, .int x2] sz (wd_04c632 k n_t n_rows v_size v_stations r_rows)) (gQI dC dI (va_A (wd_04c632 k n_t n_rows v_size v_stations r_rows) sz) o_r (wd_04c632 k n_t n_rows v_size v_stations r_rows)) 0 0 (va_A (wd_04c632 k n_t n_rows v_size v_stations r_rows) sz) := by
  refine g_entry (cc := cX0_spread) (maxL := 8) (ret := (some .int)) (lv := [(0, .ref n_t), (1, .int x1), (2, .int x2)]) (by decide +kernel) rfl (Nat.le_of_ble_eq_true rfl) rfl (fun p e s m below meth c ls hx hb hr hml hts hown hlk hnm hsz hG hA hP hD hS hl => ?_)
  exact k_X0_spread hx hb hml hts hown hG hA F n_t n_rows v_size v_stations r_rows x1 x2 o_r (fun pc H locs ls v hd ho hP hD hS => by cases ho; exact g_ireti hx hb hr hlk hP hD hS hd) s.heap [] ls hl hP hD hS hm
end
section
set_option maxHeartbeats 4000000 in
set_option maxRecDepth 100000 in
theorem k_X0_touching {p : Program} {l : Launch} {e : Env} {s : State} {m : MethodId} {args : Array Value} {below : List Frame} {meth : Method} {c : Code} {A : Nat → Prop} {Q : State → Prop} {dC : Nat → ClassId} {dI : Nat → Nat → Nat} {k : Nat → ClassId} (hx : p.tables.exec = Jvm.exec) (hb : c.code = cX0_touching) (hml : c.maxLocals = 4) (hts : ∀ w ∈ wsX0_touching, w.before args s = true) (hown : s.vm.findClass RX0 = some m.cls) (hG : gK dC dI k A s) (hA : ∀ q : Nat, s.heap.size ≤ q → A q) (F : Nat) (n_t n_rows : Nat) (v_size : Int32) (v_stations : Int32) (r_rows : Nat → Int32) (x1 : Int32) (o_r : Int32) (RET : ∀ (pc : Nat) (H : Heap) (locs : List Loc) (ls : Array Slot) (v : Int32), decode cX0_touching pc = .ok (.ireturn, 1) → some v = some o_r → va_P (dC, dI) vwCl (wd_04c632 k n_t n_rows v_size v_stations r_rows) H → va_D A (wd_04c632 k n_t n_rows v_size v_stations r_rows) → va_S A s.heap H locs → W p l e rm_X0_touching s m args below meth c H locs 0 0 Q (F0 m pc ls [.int v])) (H : Heap) (locs : List Loc) (ls : Array Slot) (hl : lv_has ls 4 [(0, .ref n_t), (1, .int x1)]) (hP : va_P (dC, dI) vwCl (wd_04c632 k n_t n_rows v_size v_stations r_rows) H) (hD : va_D A (wd_04c632 k n_t n_rows v_size v_stations r_rows)) (hS : va_S A s.heap H locs) (hm : f_X0_touching F x1 v_size r_rows = some o_r) : W p l e rm_X0_touching s m args below meth c H locs 0 0 Q (F0 m 0 ls []) := by
  have hinX0 : ∀ w ∈ u_ws RX0 TX0 3, w ∈ wsX0_touching := by decide +kernel
  have k0 := hts (.fieldLink RX0 19 "CaveLegs$Legs" "size" "I") (by decide +kernel)
  have L_4 : ∀ (n4 : Nat) (x1 : Int32) (x2 : Int32) (x3 : Int32) (H : Heap) (locs : List Loc) (ls : Array Slot), lv_has ls 4 [(0, .ref n_t), (1, .int x1), (2, .int x2), (3, .int x3)] → va_P (dC, dI) vwCl (wd_04c632 k n_t n_rows v_size v_stations r_rows) H → va_D A (wd_04c632 k n_t n_rows v_size v_stations r_rows) → va_S A s.heap H locs → f_X0_touching_L4 F v_size r_rows n4 x1 x2 x3 = some o_r → W p l e rm_X0_touching s m args below meth c H locs 0 0 Q (F0 m 4 ls []) := by
    intro n4
    induction n4 with
    | zero =>
      intro x1 x2 x3 H locs ls hl hP hD hS hm
      exact non_some hm
    | succ n4 ih4 =>
      have J_30 : ∀ (x1 : Int32) (x2 : Int32) (x3 : Int32) (H : Heap) (locs : List Loc) (ls : Array Slot), lv_has ls 4 [(0, .ref n_t), (1, .int x1), (2, .int x2), (3, .int x3)] → va_P (dC, dI) vwCl (wd_04c632 k n_t n_rows v_size v_stations r_rows) H → va_D A (wd_04c632 k n_t n_rows v_size v_stations r_rows) → va_S A s.heap H locs → f_X0_touching_J30 F v_size r_rows (f_X0_touching_L4 F v_size r_rows n4) x1 x2 x3 = some o_r → W p l e rm_X0_touching s m args below meth c H locs 0 0 Q (F0 m 30 ls []) := by
        intro x1 x2 x3 H locs ls hl hP hD hS hm
        unfold f_X0_touching_J30 at hm
        obtain ⟨t1, et1⟩ : ∃ y : Int32, y = x3 + (1 : Int32) := ⟨_, rfl⟩
        replace hm := (nmd_eq et1).trans hm
        refine lv_iinc (v := t1) (lv' := [(3, .int t1), (0, .ref n_t), (1, .int x1), (2, .int x2)]) hx hb dX0_touching_30 hl (k := 3) rfl (by rw [et1]; rfl) (by decide) rfl (fun ls hl => ?_)
        refine lv_goto (tgt := 4) hx hb dX0_touching_33 (by decide) ?_
        exact ih4 _ _ _ _ _ _ (lv_sub hl [1, 2, 3, 0] rfl) hP hD hS hm
      intro x1 x2 x3 H locs ls hl hP hD hS hm
      replace hm : f_X0_touching_B4 F v_size r_rows (f_X0_touching_L4 F v_size r_rows n4) x1 x2 x3 = some o_r := hm
      unfold f_X0_touching_B4 at hm
      refine lv_iload_n hx hb dX0_touching_4 rfl (lv_at hl 3 rfl) ?_
      refine lv_aload_n hx hb dX0_touching_5 rfl (lv_at hl 0 rfl) ?_
      refine va_get (D := (dC, dI)) (ci := 0) (v := .int v_size) (C := RX0) (T := TX0) (N := 3) hx hb hts hinX0 hown hG.1 hP 0 rfl rfl 1 (by decide) k0 (fun _ h9 => h9) rfl dX0_touching_6 ?_
      refine lv_icmp_ge (tgt := 36) hx hb dX0_touching_9 (by decide) (fun c2 => ?_) (fun c2 => ?_)
      · replace hm := ifp c2 hm
        refine lv_iload_n hx hb dX0_touching_36 rfl (lv_at hl 2 rfl) ?_
        exact RET _ _ _ _ _ dX0_touching_37 hm hP hD hS
      · replace hm := ifn c2 hm
        refine lv_aload_n hx hb dX0_touching_12 rfl (lv_at hl 0 rfl) ?_
        refine lv_iload_n hx hb dX0_touching_13 rfl (lv_at hl 3 rfl) ?_
        refine lv_bipush (v := (7 : Int32)) hx hb dX0_touching_14 (by decide) ?_
        obtain ⟨r3, e4, hm⟩ := bnd1_some hm
        refine g_calli (w2 := (wd_04c632 k n_t n_rows v_size v_stations r_rows)) (va_runV (As := [.int x3, .int (7 : Int32)]) (rest := []) ⟨hx, hb, hml, hown, hts⟩ (m_X0_get l dC dI k H.size n_t n_rows v_size v_stations r_rows x3 (7 : Int32) e4) (cwV 2 hts gX0_touching_X0_get rfl rfl rfl (by decide +kernel) ⟨Nat.le_of_ble_eq_true rfl, Nat.le_of_ble_eq_true rfl⟩) (g_preV hG hP hD hS hA [0, 1] rfl (by decide) (ci := 0) (q0 := 0) rfl rfl) rfl rfl hl.1 rfl (lv_room (Nat.le_of_ble_eq_true rfl)) dX0_touching_16 ⟨Nat.le_of_ble_eq_true rfl, Nat.le_of_ble_eq_true rfl⟩) hP hD hS hA [0, 1] [] [0, 1] rfl rfl (by decide) (by decide) rfl (by decide) (fun H locs hP hD hS => ?_)
        refine lv_iload_n hx hb dX0_touching_19 rfl (lv_at hl 1 rfl) ?_
        refine lv_iand hx hb dX0_touching_20 ?_
        refine lv_if_eq (tgt := 30) hx hb dX0_touching_21 (by decide) (fun c5 => ?_) (fun c5 => ?_)
        · replace hm := ifp c5 hm
          exact J_30 _ _ _ _ _ _ (lv_sub hl [0, 1, 2, 3] rfl) hP hD hS hm
        · replace hm := ifn c5 hm
          refine lv_iload_n hx hb dX0_touching_24 rfl (lv_at hl 2 rfl) ?_
          refine lv_iconst (v := (1 : Int32)) hx hb dX0_touching_25 (by decide) ?_
          refine lv_iload_n hx hb dX0_touching_26 rfl (lv_at hl 3 rfl) ?_
          refine g_ishl hx hb dX0_touching_27 ?_
          refine lv_ior hx hb dX0_touching_28 ?_
          refine lv_topi (fun t6 et6 => ?_)
          replace hm := (nmd_eq et6).trans hm
          refine lv_istore_n (lv' := [(2, .int t6), (0, .ref n_t), (1, .int x1), (3, .int x3)]) hx hb dX0_touching_29 rfl hl (by decide) rfl (fun ls hl => ?_)
          exact J_30 _ _ _ _ _ _ (lv_sub hl [1, 2, 0, 3] rfl) hP hD hS hm
  unfold f_X0_touching at hm
  refine lv_iconst (v := (0 : Int32)) hx hb dX0_touching_0 (by decide) ?_
  refine lv_istore_n (lv' := [(2, .int (0 : Int32)), (0, .ref n_t), (1, .int x1)]) hx hb dX0_touching_1 rfl hl (by decide) rfl (fun ls hl => ?_)
  refine lv_iconst (v := (0 : Int32)) hx hb dX0_touching_2 (by decide) ?_
  refine lv_istore_n (lv' := [(3, .int (0 : Int32)), (2, .int (0 : Int32)), (0, .ref n_t), (1, .int x1)]) hx hb dX0_touching_3 rfl hl (by decide) rfl (fun ls hl => ?_)
  exact L_4 F _ _ _ _ _ _ (lv_sub hl [2, 3, 1, 0] rfl) hP hD hS hm
set_option maxRecDepth 100000 in
theorem m_X0_touching (l : Launch) (dC : Nat → ClassId) (dI : Nat → Nat → Nat) (k : Nat → ClassId) (F : Nat) (sz : Nat) (n_t n_rows : Nat) (v_size : Int32) (v_stations : Int32) (r_rows : Nat → Int32) (x1 : Int32) {o_r : Int32} (hm : f_X0_touching F x1 v_size r_rows = some o_r) : Met l yX0_touching wsX0_touching rm_X0_touching (gPre dC dI k [.ref n_t, .int x1] sz (wd_04c632 k n_t n_rows v_size v_stations r_rows)) (gQI dC dI (va_A (wd_04c632 k n_t n_rows v_size v_stations r_rows) sz) o_r (wd_04c632 k n_t n_rows v_size v_stations r_rows)) 0 0 (va_A (wd_04c632 k n_t n_rows v_size v_stations r_rows) sz) := by
  refine g_entry (cc := cX0_touching) (maxL := 4) (ret := (some .int)) (lv := [(0, .ref n_t), (1, .int x1)]) (by decide +kernel) rfl (Nat.le_of_ble_eq_true rfl) rfl (fun p e s m below meth c ls hx hb hr hml hts hown hlk hnm hsz hG hA hP hD hS hl => ?_)
  exact k_X0_touching hx hb hml hts hown hG hA F n_t n_rows v_size v_stations r_rows x1 o_r (fun pc H locs ls v hd ho hP hD hS => by cases ho; exact g_ireti hx hb hr hlk hP hD hS hd) s.heap [] ls hl hP hD hS hm
end
section
set_option maxHeartbeats 4000000 in
set_option maxRecDepth 100000 in
theorem k_X0_leaving {p : Program} {l : Launch} {e : Env} {s : State} {m : MethodId} {args : Array Value} {below : List Frame} {meth : Method} {c : Code} {A : Nat → Prop} {Q : State → Prop} {dC : Nat → ClassId} {dI : Nat → Nat → Nat} {k : Nat → ClassId} (hx : p.tables.exec = Jvm.exec) (hb : c.code = cX0_leaving) (hml : c.maxLocals = 4) (hts : ∀ w ∈ wsX0_leaving, w.before args s = true) (hown : s.vm.findClass RX0 = some m.cls) (hG : gK dC dI k A s) (hA : ∀ q : Nat, s.heap.size ≤ q → A q) (F : Nat) (n_t n_rows : Nat) (v_size : Int32) (v_stations : Int32) (r_rows : Nat → Int32) (x1 : Int32) (o_r : Int32) (RET : ∀ (pc : Nat) (H : Heap) (locs : List Loc) (ls : Array Slot) (v : Int32), decode cX0_leaving pc = .ok (.ireturn, 1) → some v = some o_r → va_P (dC, dI) vwCl (wd_04c632 k n_t n_rows v_size v_stations r_rows) H → va_D A (wd_04c632 k n_t n_rows v_size v_stations r_rows) → va_S A s.heap H locs → W p l e rm_X0_leaving s m args below meth c H locs 0 0 Q (F0 m pc ls [.int v])) (H : Heap) (locs : List Loc) (ls : Array Slot) (hl : lv_has ls 4 [(0, .ref n_t), (1, .int x1)]) (hP : va_P (dC, dI) vwCl (wd_04c632 k n_t n_rows v_size v_stations r_rows) H) (hD : va_D A (wd_04c632 k n_t n_rows v_size v_stations r_rows)) (hS : va_S A s.heap H locs) (hm : f_X0_leaving F x1 v_size r_rows = some o_r) : W p l e rm_X0_leaving s m args below meth c H locs 0 0 Q (F0 m 0 ls []) := by
  have hinX0 : ∀ w ∈ u_ws RX0 TX0 3, w ∈ wsX0_leaving := by decide +kernel
  have k0 := hts (.fieldLink RX0 19 "CaveLegs$Legs" "size" "I") (by decide +kernel)
  have L_2 : ∀ (n2 : Nat) (x1 : Int32) (x2 : Int32) (H : Heap) (locs : List Loc) (ls : Array Slot), lv_has ls 4 [(0, .ref n_t), (1, .int x1), (2, .int x2)] → va_P (dC, dI) vwCl (wd_04c632 k n_t n_rows v_size v_stations r_rows) H → va_D A (wd_04c632 k n_t n_rows v_size v_stations r_rows) → va_S A s.heap H locs → f_X0_leaving_L2 F v_size r_rows n2 x1 x2 = some o_r → W p l e rm_X0_leaving s m args below meth c H locs 0 0 Q (F0 m 2 ls []) := by
    intro n2
    induction n2 with
    | zero =>
      intro x1 x2 H locs ls hl hP hD hS hm
      exact non_some hm
    | succ n2 ih2 =>
      have J_34 : ∀ (x1 : Int32) (x2 : Int32) (H : Heap) (locs : List Loc) (ls : Array Slot), lv_has ls 4 [(0, .ref n_t), (1, .int x1), (2, .int x2)] → va_P (dC, dI) vwCl (wd_04c632 k n_t n_rows v_size v_stations r_rows) H → va_D A (wd_04c632 k n_t n_rows v_size v_stations r_rows) → va_S A s.heap H locs → f_X0_leaving_J34 F v_size r_rows (f_X0_leaving_L2 F v_size r_rows n2) x1 x2 = some o_r → W p l e rm_X0_leaving s m args below meth c H locs 0 0 Q (F0 m 34 ls []) := by
        intro x1 x2 H locs ls hl hP hD hS hm
        unfold f_X0_leaving_J34 at hm
        obtain ⟨t1, et1⟩ : ∃ y : Int32, y = x2 + (1 : Int32) := ⟨_, rfl⟩
        replace hm := (nmd_eq et1).trans hm
        refine lv_iinc (v := t1) (lv' := [(2, .int t1), (0, .ref n_t), (1, .int x1)]) hx hb dX0_leaving_34 hl (k := 2) rfl (by rw [et1]; rfl) (by decide) rfl (fun ls hl => ?_)
        refine lv_goto (tgt := 2) hx hb dX0_leaving_37 (by decide) ?_
        exact ih2 _ _ _ _ _ (lv_sub hl [1, 2, 0] rfl) hP hD hS hm
      intro x1 x2 H locs ls hl hP hD hS hm
      replace hm : f_X0_leaving_B2 F v_size r_rows (f_X0_leaving_L2 F v_size r_rows n2) x1 x2 = some o_r := hm
      unfold f_X0_leaving_B2 at hm
      refine lv_iload_n hx hb dX0_leaving_2 rfl (lv_at hl 2 rfl) ?_
      refine lv_aload_n hx hb dX0_leaving_3 rfl (lv_at hl 0 rfl) ?_
      refine va_get (D := (dC, dI)) (ci := 0) (v := .int v_size) (C := RX0) (T := TX0) (N := 3) hx hb hts hinX0 hown hG.1 hP 0 rfl rfl 1 (by decide) k0 (fun _ h9 => h9) rfl dX0_leaving_4 ?_
      refine lv_icmp_ge (tgt := 40) hx hb dX0_leaving_7 (by decide) (fun c2 => ?_) (fun c2 => ?_)
      · replace hm := ifp c2 hm
        refine lv_bipush (v := (-9 : Int32)) hx hb dX0_leaving_40 (by decide) ?_
        exact RET _ _ _ _ _ dX0_leaving_42 hm hP hD hS
      · replace hm := ifn c2 hm
        refine lv_aload_n hx hb dX0_leaving_10 rfl (lv_at hl 0 rfl) ?_
        refine lv_iload_n hx hb dX0_leaving_11 rfl (lv_at hl 2 rfl) ?_
        refine lv_bipush (v := (7 : Int32)) hx hb dX0_leaving_12 (by decide) ?_
        obtain ⟨r3, e4, hm⟩ := bnd1_some hm
        refine g_calli (w2 := (wd_04c632 k n_t n_rows v_size v_stations r_rows)) (va_runV (As := [.int x2, .int (7 : Int32)]) (rest := []) ⟨hx, hb, hml, hown, hts⟩ (m_X0_get l dC dI k H.size n_t n_rows v_size v_stations r_rows x2 (7 : Int32) e4) (cwV 2 hts gX0_leaving_X0_get rfl rfl rfl (by decide +kernel) ⟨Nat.le_of_ble_eq_true rfl, Nat.le_of_ble_eq_true rfl⟩) (g_preV hG hP hD hS hA [0, 1] rfl (by decide) (ci := 0) (q0 := 0) rfl rfl) rfl rfl hl.1 rfl (lv_room (Nat.le_of_ble_eq_true rfl)) dX0_leaving_14 ⟨Nat.le_of_ble_eq_true rfl, Nat.le_of_ble_eq_true rfl⟩) hP hD hS hA [0, 1] [] [0, 1] rfl rfl (by decide) (by decide) rfl (by decide) (fun H locs hP hD hS => ?_)
        refine lv_istore_n (lv' := [(3, .int r3), (0, .ref n_t), (1, .int x1), (2, .int x2)]) hx hb dX0_leaving_17 rfl hl (by decide) rfl (fun ls hl => ?_)
        refine lv_iload_n hx hb dX0_leaving_18 rfl (lv_at hl 0 rfl) ?_
        refine lv_iload_n hx hb dX0_leaving_19 rfl (lv_at hl 2 rfl) ?_
        refine lv_iand hx hb dX0_leaving_20 ?_
        refine lv_if_eq (tgt := 34) hx hb dX0_leaving_21 (by decide) (fun c5 => ?_) (fun c5 => ?_)
        · replace hm := ifp c5 hm
          exact J_34 _ _ _ _ _ (lv_sub hl [1, 2, 3] rfl) hP hD hS hm
        · replace hm := ifn c5 hm
          refine lv_iload_n hx hb dX0_leaving_24 rfl (lv_at hl 0 rfl) ?_
          refine lv_iload_n hx hb dX0_leaving_25 rfl (lv_at hl 2 rfl) ?_
          refine lv_iconst (v := (-1 : Int32)) hx hb dX0_leaving_26 (by decide) ?_
          refine lv_ixor hx hb dX0_leaving_27 ?_
          refine lv_iand hx hb dX0_leaving_28 ?_
          refine lv_if_eq (tgt := 34) hx hb dX0_leaving_29 (by decide) (fun c6 => ?_) (fun c6 => ?_)
          · replace hm := ifp c6 hm
            exact J_34 _ _ _ _ _ (lv_sub hl [1, 2, 3] rfl) hP hD hS hm
          · replace hm := ifn c6 hm
            refine lv_iload_n hx hb dX0_leaving_32 rfl (lv_at hl 3 rfl) ?_
            exact RET _ _ _ _ _ dX0_leaving_33 hm hP hD hS
  unfold f_X0_leaving at hm
  refine lv_iconst (v := (0 : Int32)) hx hb dX0_leaving_0 (by decide) ?_
  refine lv_istore_n (lv' := [(2, .int (0 : Int32)), (0, .ref n_t), (1, .int x1)]) hx hb dX0_leaving_1 rfl hl (by decide) rfl (fun ls hl => ?_)
  exact L_2 F _ _ _ _ _ (lv_sub hl [1, 2, 0] rfl) hP hD hS hm
set_option maxRecDepth 100000 in
theorem m_X0_leaving (l : Launch) (dC : Nat → ClassId) (dI : Nat → Nat → Nat) (k : Nat → ClassId) (F : Nat) (sz : Nat) (n_t n_rows : Nat) (v_size : Int32) (v_stations : Int32) (r_rows : Nat → Int32) (x1 : Int32) {o_r : Int32} (hm : f_X0_leaving F x1 v_size r_rows = some o_r) : Met l yX0_leaving wsX0_leaving rm_X0_leaving (gPre dC dI k [.ref n_t, .int x1] sz (wd_04c632 k n_t n_rows v_size v_stations r_rows)) (gQI dC dI (va_A (wd_04c632 k n_t n_rows v_size v_stations r_rows) sz) o_r (wd_04c632 k n_t n_rows v_size v_stations r_rows)) 0 0 (va_A (wd_04c632 k n_t n_rows v_size v_stations r_rows) sz) := by
  refine g_entry (cc := cX0_leaving) (maxL := 4) (ret := (some .int)) (lv := [(0, .ref n_t), (1, .int x1)]) (by decide +kernel) rfl (Nat.le_of_ble_eq_true rfl) rfl (fun p e s m below meth c ls hx hb hr hml hts hown hlk hnm hsz hG hA hP hD hS hl => ?_)
  exact k_X0_leaving hx hb hml hts hown hG hA F n_t n_rows v_size v_stations r_rows x1 o_r (fun pc H locs ls v hd ho hP hD hS => by cases ho; exact g_ireti hx hb hr hlk hP hD hS hd) s.heap [] ls hl hP hD hS hm
end
section
set_option maxHeartbeats 4000000 in
set_option maxRecDepth 100000 in
theorem k_X0_connected {p : Program} {l : Launch} {e : Env} {s : State} {m : MethodId} {args : Array Value} {below : List Frame} {meth : Method} {c : Code} {A : Nat → Prop} {Q : State → Prop} {dC : Nat → ClassId} {dI : Nat → Nat → Nat} {k : Nat → ClassId} (hx : p.tables.exec = Jvm.exec) (hb : c.code = cX0_connected) (hml : c.maxLocals = 1) (hts : ∀ w ∈ wsX0_connected, w.before args s = true) (hown : s.vm.findClass RX0 = some m.cls) (hG : gK dC dI k A s) (hA : ∀ q : Nat, s.heap.size ≤ q → A q) (F : Nat) (n_t n_rows : Nat) (v_size : Int32) (v_stations : Int32) (r_rows : Nat → Int32) (o_r : Int32) (RET : ∀ (pc : Nat) (H : Heap) (locs : List Loc) (ls : Array Slot) (v : Int32), decode cX0_connected pc = .ok (.ireturn, 1) → some v = some o_r → va_P (dC, dI) vwCl (wd_04c632 k n_t n_rows v_size v_stations r_rows) H → va_D A (wd_04c632 k n_t n_rows v_size v_stations r_rows) → va_S A s.heap H locs → W p l e rm_X0_connected s m args below meth c H locs 0 0 Q (F0 m pc ls [.int v])) (H : Heap) (locs : List Loc) (ls : Array Slot) (hl : lv_has ls 1 [(0, .ref n_t)]) (hP : va_P (dC, dI) vwCl (wd_04c632 k n_t n_rows v_size v_stations r_rows) H) (hD : va_D A (wd_04c632 k n_t n_rows v_size v_stations r_rows)) (hS : va_S A s.heap H locs) (hm : f_X0_connected F v_size r_rows = some o_r) : W p l e rm_X0_connected s m args below meth c H locs 0 0 Q (F0 m 0 ls []) := by
  unfold f_X0_connected at hm
  refine lv_aload_n hx hb dX0_connected_0 rfl (lv_at hl 0 rfl) ?_
  refine lv_aload_n hx hb dX0_connected_1 rfl (lv_at hl 0 rfl) ?_
  obtain ⟨r1, e2, hm⟩ := bnd1_some hm
  refine g_calli (w2 := (wd_04c632 k n_t n_rows v_size v_stations r_rows)) (va_runV (As := []) (rest := [.ref n_t]) ⟨hx, hb, hml, hown, hts⟩ (m_X0_all l dC dI k H.size n_t n_rows v_size v_stations  e2) (cwV 0 hts gX0_connected_X0_all rfl rfl rfl (by decide +kernel) ⟨Nat.le_of_ble_eq_true rfl, Nat.le_of_ble_eq_true rfl⟩) (g_preV hG hP hD hS hA [0] rfl (by decide) (ci := 0) (q0 := 0) rfl rfl) rfl rfl hl.1 rfl (lv_room (Nat.le_of_ble_eq_true rfl)) dX0_connected_2 ⟨Nat.le_of_ble_eq_true rfl, Nat.le_of_ble_eq_true rfl⟩) hP hD hS hA [0] [1] [1, 0] rfl rfl (by decide) (by decide) rfl (by decide) (fun H locs hP hD hS => ?_)
  refine lv_iconst (v := (1 : Int32)) hx hb dX0_connected_5 (by decide) ?_
  obtain ⟨r3, e4, hm⟩ := bnd1_some hm
  refine g_calli (w2 := (wd_04c632 k n_t n_rows v_size v_stations r_rows)) (va_runV (As := [.int r1, .int (1 : Int32)]) (rest := []) ⟨hx, hb, hml, hown, hts⟩ (m_X0_spread l dC dI k F H.size n_t n_rows v_size v_stations r_rows r1 (1 : Int32) e4) (cwV 2 hts gX0_connected_X0_spread rfl rfl rfl (by decide +kernel) ⟨Nat.le_of_ble_eq_true rfl, Nat.le_of_ble_eq_true rfl⟩) (g_preV hG hP hD hS hA [0, 1] rfl (by decide) (ci := 0) (q0 := 0) rfl rfl) rfl rfl hl.1 rfl (lv_room (Nat.le_of_ble_eq_true rfl)) dX0_connected_6 ⟨Nat.le_of_ble_eq_true rfl, Nat.le_of_ble_eq_true rfl⟩) hP hD hS hA [0, 1] [] [0, 1] rfl rfl (by decide) (by decide) rfl (by decide) (fun H locs hP hD hS => ?_)
  exact RET _ _ _ _ _ dX0_connected_9 hm hP hD hS
set_option maxRecDepth 100000 in
theorem m_X0_connected (l : Launch) (dC : Nat → ClassId) (dI : Nat → Nat → Nat) (k : Nat → ClassId) (F : Nat) (sz : Nat) (n_t n_rows : Nat) (v_size : Int32) (v_stations : Int32) (r_rows : Nat → Int32) {o_r : Int32} (hm : f_X0_connected F v_size r_rows = some o_r) : Met l yX0_connected wsX0_connected rm_X0_connected (gPre dC dI k [.ref n_t] sz (wd_04c632 k n_t n_rows v_size v_stations r_rows)) (gQI dC dI (va_A (wd_04c632 k n_t n_rows v_size v_stations r_rows) sz) o_r (wd_04c632 k n_t n_rows v_size v_stations r_rows)) 0 0 (va_A (wd_04c632 k n_t n_rows v_size v_stations r_rows) sz) := by
  refine g_entry (cc := cX0_connected) (maxL := 1) (ret := (some .int)) (lv := [(0, .ref n_t)]) (by decide +kernel) rfl (Nat.le_of_ble_eq_true rfl) rfl (fun p e s m below meth c ls hx hb hr hml hts hown hlk hnm hsz hG hA hP hD hS hl => ?_)
  exact k_X0_connected hx hb hml hts hown hG hA F n_t n_rows v_size v_stations r_rows o_r (fun pc H locs ls v hd ho hP hD hS => by cases ho; exact g_ireti hx hb hr hlk hP hD hS hd) s.heap [] ls hl hP hD hS hm
end
section
set_option maxHeartbeats 4000000 in
set_option maxRecDepth 100000 in
theorem k_J6_bitCount_0f7a4 {p : Program} {l : Launch} {e : Env} {s : State} {m : MethodId} {args : Array Value} {below : List Frame} {meth : Method} {c : Code} {A : Nat → Prop} {Q : State → Prop} {dC : Nat → ClassId} {dI : Nat → Nat → Nat} {k : Nat → ClassId} (hx : p.tables.exec = Jvm.exec) (hb : c.code = cJ6_bitCount_0f7a4) (hml : c.maxLocals = 1) (hts : ∀ w ∈ wsJ6_bitCount_0f7a4, w.before args s = true) (hown : s.vm.findClass RJ6 = some m.cls) (hG : gK dC dI k A s) (hA : ∀ q : Nat, s.heap.size ≤ q → A q)  (x0 : Int32) (o_r : Int32) (RET : ∀ (pc : Nat) (H : Heap) (locs : List Loc) (ls : Array Slot) (v : Int32), decode cJ6_bitCount_0f7a4 pc = .ok (.ireturn, 1) → some v = some o_r → va_P (dC, dI) vwCl [] H → va_D A [] → va_S A s.heap H locs → W p l e rm_J6_bitCount_0f7a4 s m args below meth c H locs 0 0 Q (F0 m pc ls [.int v])) (H : Heap) (locs : List Loc) (ls : Array Slot) (hl : lv_has ls 1 [(0, .int x0)]) (hP : va_P (dC, dI) vwCl [] H) (hD : va_D A []) (hS : va_S A s.heap H locs) (hm : f_J6_bitCount_0f7a4 x0 = some o_r) : W p l e rm_J6_bitCount_0f7a4 s m args below meth c H locs 0 0 Q (F0 m 0 ls []) := by
  have k0 := hts (.constant RJ6 265 (1431655765)) (by decide +kernel)
  have k1 := hts (.constant RJ6 266 (858993459)) (by decide +kernel)
  have k2 := hts (.constant RJ6 267 (252645135)) (by decide +kernel)
  unfold f_J6_bitCount_0f7a4 at hm
  refine lv_iload_n hx hb dJ6_bitCount_0f7a4_0 rfl (lv_at hl 0 rfl) ?_
  refine lv_iload_n hx hb dJ6_bitCount_0f7a4_1 rfl (lv_at hl 0 rfl) ?_
  refine lv_iconst (v := (1 : Int32)) hx hb dJ6_bitCount_0f7a4_2 (by decide) ?_
  refine g_iushr hx hb dJ6_bitCount_0f7a4_3 ?_
  refine lv_ldcw (v := (1431655765 : Int32)) hx hb hown k0 dJ6_bitCount_0f7a4_4 ?_
  refine lv_iand hx hb dJ6_bitCount_0f7a4_7 ?_
  refine lv_isub hx hb dJ6_bitCount_0f7a4_8 ?_
  refine lv_topi (fun t1 et1 => ?_)
  replace hm := (nmd_eq et1).trans hm
  refine lv_istore_n (lv' := [(0, .int t1)]) hx hb dJ6_bitCount_0f7a4_9 rfl hl (by decide) rfl (fun ls hl => ?_)
  refine lv_iload_n hx hb dJ6_bitCount_0f7a4_10 rfl (lv_at hl 0 rfl) ?_
  refine lv_ldcw (v := (858993459 : Int32)) hx hb hown k1 dJ6_bitCount_0f7a4_11 ?_
  refine lv_iand hx hb dJ6_bitCount_0f7a4_14 ?_
  refine lv_iload_n hx hb dJ6_bitCount_0f7a4_15 rfl (lv_at hl 0 rfl) ?_
  refine lv_iconst (v := (2 : Int32)) hx hb dJ6_bitCount_0f7a4_16 (by decide) ?_
  refine g_iushr hx hb dJ6_bitCount_0f7a4_17 ?_
  refine lv_ldcw (v := (858993459 : Int32)) hx hb hown k1 dJ6_bitCount_0f7a4_18 ?_
  refine lv_iand hx hb dJ6_bitCount_0f7a4_21 ?_
  refine lv_iadd hx hb dJ6_bitCount_0f7a4_22 ?_
  refine lv_topi (fun t2 et2 => ?_)
  replace hm := (nmd_eq et2).trans hm
  refine lv_istore_n (lv' := [(0, .int t2)]) hx hb dJ6_bitCount_0f7a4_23 rfl hl (by decide) rfl (fun ls hl => ?_)
  refine lv_iload_n hx hb dJ6_bitCount_0f7a4_24 rfl (lv_at hl 0 rfl) ?_
  refine lv_iload_n hx hb dJ6_bitCount_0f7a4_25 rfl (lv_at hl 0 rfl) ?_
  refine lv_iconst (v := (4 : Int32)) hx hb dJ6_bitCount_0f7a4_26 (by decide) ?_
  refine g_iushr hx hb dJ6_bitCount_0f7a4_27 ?_
  refine lv_iadd hx hb dJ6_bitCount_0f7a4_28 ?_
  refine lv_ldcw (v := (252645135 : Int32)) hx hb hown k2 dJ6_bitCount_0f7a4_29 ?_
  refine lv_iand hx hb dJ6_bitCount_0f7a4_32 ?_
  refine lv_topi (fun t3 et3 => ?_)
  replace hm := (nmd_eq et3).trans hm
  refine lv_istore_n (lv' := [(0, .int t3)]) hx hb dJ6_bitCount_0f7a4_33 rfl hl (by decide) rfl (fun ls hl => ?_)
  refine lv_iload_n hx hb dJ6_bitCount_0f7a4_34 rfl (lv_at hl 0 rfl) ?_
  refine lv_iload_n hx hb dJ6_bitCount_0f7a4_35 rfl (lv_at hl 0 rfl) ?_
  refine lv_bipush (v := (8 : Int32)) hx hb dJ6_bitCount_0f7a4_36 (by decide) ?_
  refine g_iushr hx hb dJ6_bitCount_0f7a4_38 ?_
  refine lv_iadd hx hb dJ6_bitCount_0f7a4_39 ?_
  refine lv_topi (fun t4 et4 => ?_)
  replace hm := (nmd_eq et4).trans hm
  refine lv_istore_n (lv' := [(0, .int t4)]) hx hb dJ6_bitCount_0f7a4_40 rfl hl (by decide) rfl (fun ls hl => ?_)
  refine lv_iload_n hx hb dJ6_bitCount_0f7a4_41 rfl (lv_at hl 0 rfl) ?_
  refine lv_iload_n hx hb dJ6_bitCount_0f7a4_42 rfl (lv_at hl 0 rfl) ?_
  refine lv_bipush (v := (16 : Int32)) hx hb dJ6_bitCount_0f7a4_43 (by decide) ?_
  refine g_iushr hx hb dJ6_bitCount_0f7a4_45 ?_
  refine lv_iadd hx hb dJ6_bitCount_0f7a4_46 ?_
  refine lv_topi (fun t5 et5 => ?_)
  replace hm := (nmd_eq et5).trans hm
  refine lv_istore_n (lv' := [(0, .int t5)]) hx hb dJ6_bitCount_0f7a4_47 rfl hl (by decide) rfl (fun ls hl => ?_)
  refine lv_iload_n hx hb dJ6_bitCount_0f7a4_48 rfl (lv_at hl 0 rfl) ?_
  refine lv_bipush (v := (63 : Int32)) hx hb dJ6_bitCount_0f7a4_49 (by decide) ?_
  refine lv_iand hx hb dJ6_bitCount_0f7a4_51 ?_
  exact RET _ _ _ _ _ dJ6_bitCount_0f7a4_52 hm hP hD hS
set_option maxRecDepth 100000 in
theorem m_J6_bitCount_0f7a4 (l : Launch) (dC : Nat → ClassId) (dI : Nat → Nat → Nat) (k : Nat → ClassId) (sz : Nat)  (x0 : Int32) {o_r : Int32} (hm : f_J6_bitCount_0f7a4 x0 = some o_r) : Met l yJ6_bitCount_0f7a4 wsJ6_bitCount_0f7a4 rm_J6_bitCount_0f7a4 (gPre dC dI k [.int x0] sz []) (gQI dC dI (va_A [] sz) o_r []) 0 0 (va_A [] sz) := by
  refine g_entryF (cc := cJ6_bitCount_0f7a4) (maxL := 1) (ret := (some .int)) (lv := [(0, .int x0)]) (by decide +kernel) rfl (Nat.le_of_ble_eq_true rfl) rfl (fun p e s m below meth c ls hx hb hr hml hts hown hlk hnm hsz hG hA hP hD hS hl => ?_)
  exact k_J6_bitCount_0f7a4 hx hb hml hts hown hG hA x0 o_r (fun pc H locs ls v hd ho hP hD hS => by cases ho; exact g_ireti hx hb hr hlk hP hD hS hd) s.heap [] ls hl hP hD hS hm
end
section
set_option maxHeartbeats 4000000 in
set_option maxRecDepth 100000 in
theorem k_X0_loops {p : Program} {l : Launch} {e : Env} {s : State} {m : MethodId} {args : Array Value} {below : List Frame} {meth : Method} {c : Code} {A : Nat → Prop} {Q : State → Prop} {dC : Nat → ClassId} {dI : Nat → Nat → Nat} {k : Nat → ClassId} (hx : p.tables.exec = Jvm.exec) (hb : c.code = cX0_loops) (hml : c.maxLocals = 2) (hts : ∀ w ∈ wsX0_loops, w.before args s = true) (hown : s.vm.findClass RX0 = some m.cls) (hG : gK dC dI k A s) (hA : ∀ q : Nat, s.heap.size ≤ q → A q) (F : Nat) (n_t n_rows : Nat) (v_size : Int32) (v_stations : Int32) (r_rows : Nat → Int32) (o_r : Int32) (RET : ∀ (pc : Nat) (H : Heap) (locs : List Loc) (ls : Array Slot) (v : Int32), decode cX0_loops pc = .ok (.ireturn, 1) → some v = some o_r → va_P (dC, dI) vwCl (wd_04c632 k n_t n_rows v_size v_stations r_rows) H → va_D A (wd_04c632 k n_t n_rows v_size v_stations r_rows) → va_S A s.heap H locs → W p l e rm_X0_loops s m args below meth c H locs 0 0 Q (F0 m pc ls [.int v])) (H : Heap) (locs : List Loc) (ls : Array Slot) (hl : lv_has ls 2 [(0, .ref n_t)]) (hP : va_P (dC, dI) vwCl (wd_04c632 k n_t n_rows v_size v_stations r_rows) H) (hD : va_D A (wd_04c632 k n_t n_rows v_size v_stations r_rows)) (hS : va_S A s.heap H locs) (hm : f_X0_loops F v_size r_rows = some o_r) : W p l e rm_X0_loops s m args below meth c H locs 0 0 Q (F0 m 0 ls []) := by
  unfold f_X0_loops at hm
  refine lv_aload_n hx hb dX0_loops_0 rfl (lv_at hl 0 rfl) ?_
  obtain ⟨r1, e2, hm⟩ := bnd1_some hm
  refine g_calli (w2 := (wd_04c632 k n_t n_rows v_size v_stations r_rows)) (va_runV (As := []) (rest := []) ⟨hx, hb, hml, hown, hts⟩ (m_X0_connected l dC dI k F H.size n_t n_rows v_size v_stations r_rows  e2) (cwV 0 hts gX0_loops_X0_connected rfl rfl rfl (by decide +kernel) ⟨Nat.le_of_ble_eq_true rfl, Nat.le_of_ble_eq_true rfl⟩) (g_preV hG hP hD hS hA [0, 1] rfl (by decide) (ci := 0) (q0 := 0) rfl rfl) rfl rfl hl.1 rfl (lv_room (Nat.le_of_ble_eq_true rfl)) dX0_loops_1 ⟨Nat.le_of_ble_eq_true rfl, Nat.le_of_ble_eq_true rfl⟩) hP hD hS hA [0, 1] [] [0, 1] rfl rfl (by decide) (by decide) rfl (by decide) (fun H locs hP hD hS => ?_)
  refine lv_istore_n (lv' := [(1, .int r1), (0, .ref n_t)]) hx hb dX0_loops_4 rfl hl (by decide) rfl (fun ls hl => ?_)
  refine lv_aload_n hx hb dX0_loops_5 rfl (lv_at hl 1 rfl) ?_
  refine lv_iload_n hx hb dX0_loops_6 rfl (lv_at hl 0 rfl) ?_
  obtain ⟨r3, e4, hm⟩ := bnd1_some hm
  refine g_calli (w2 := (wd_04c632 k n_t n_rows v_size v_stations r_rows)) (va_runV (As := [.int r1]) (rest := []) ⟨hx, hb, hml, hown, hts⟩ (m_X0_touching l dC dI k F H.size n_t n_rows v_size v_stations r_rows r1 e4) (cwV 1 hts gX0_loops_X0_touching rfl rfl rfl (by decide +kernel) ⟨Nat.le_of_ble_eq_true rfl, Nat.le_of_ble_eq_true rfl⟩) (g_preV hG hP hD hS hA [0, 1] rfl (by decide) (ci := 0) (q0 := 0) rfl rfl) rfl rfl hl.1 rfl (lv_room (Nat.le_of_ble_eq_true rfl)) dX0_loops_7 ⟨Nat.le_of_ble_eq_true rfl, Nat.le_of_ble_eq_true rfl⟩) hP hD hS hA [0, 1] [] [0, 1] rfl rfl (by decide) (by decide) rfl (by decide) (fun H locs hP hD hS => ?_)
  obtain ⟨r5, e6, hm⟩ := bnd1_some hm
  refine g_calli (w2 := (wd_04c632 k n_t n_rows v_size v_stations r_rows)) (va_runS (As := [.int r3]) (rest := []) ⟨hx, hb, hml, hown, hts⟩ (m_J6_bitCount_0f7a4 l dC dI k H.size  r3 e6) (va_cwS 1 hts gX0_loops_J6_bitCount_0f7a4 rfl rfl rfl (by decide +kernel) ⟨Nat.le_of_ble_eq_true rfl, Nat.le_of_ble_eq_true rfl⟩) (g_preS hG hP hD hS hA [] rfl (by decide)) rfl rfl hl.1 rfl (lv_room (Nat.le_of_ble_eq_true rfl)) dX0_loops_10 ⟨Nat.le_of_ble_eq_true rfl, Nat.le_of_ble_eq_true rfl⟩) hP hD hS hA [] [0, 1] [0, 1] rfl rfl (by decide) (by decide) rfl (by decide) (fun H locs hP hD hS => ?_)
  refine lv_iload_n hx hb dX0_loops_13 rfl (lv_at hl 0 rfl) ?_
  obtain ⟨r7, e8, hm⟩ := bnd1_some hm
  refine g_calli (w2 := (wd_04c632 k n_t n_rows v_size v_stations r_rows)) (va_runS (As := [.int r1]) (rest := [.int r5]) ⟨hx, hb, hml, hown, hts⟩ (m_J6_bitCount_0f7a4 l dC dI k H.size  r1 e8) (va_cwS 1 hts gX0_loops_J6_bitCount_0f7a4 rfl rfl rfl (by decide +kernel) ⟨Nat.le_of_ble_eq_true rfl, Nat.le_of_ble_eq_true rfl⟩) (g_preS hG hP hD hS hA [] rfl (by decide)) rfl rfl hl.1 rfl (lv_room (Nat.le_of_ble_eq_true rfl)) dX0_loops_14 ⟨Nat.le_of_ble_eq_true rfl, Nat.le_of_ble_eq_true rfl⟩) hP hD hS hA [] [0, 1] [0, 1] rfl rfl (by decide) (by decide) rfl (by decide) (fun H locs hP hD hS => ?_)
  refine lv_isub hx hb dX0_loops_17 ?_
  refine lv_iconst (v := (1 : Int32)) hx hb dX0_loops_18 (by decide) ?_
  refine lv_iadd hx hb dX0_loops_19 ?_
  exact RET _ _ _ _ _ dX0_loops_20 hm hP hD hS
set_option maxRecDepth 100000 in
theorem m_X0_loops (l : Launch) (dC : Nat → ClassId) (dI : Nat → Nat → Nat) (k : Nat → ClassId) (F : Nat) (sz : Nat) (n_t n_rows : Nat) (v_size : Int32) (v_stations : Int32) (r_rows : Nat → Int32) {o_r : Int32} (hm : f_X0_loops F v_size r_rows = some o_r) : Met l yX0_loops wsX0_loops rm_X0_loops (gPre dC dI k [.ref n_t] sz (wd_04c632 k n_t n_rows v_size v_stations r_rows)) (gQI dC dI (va_A (wd_04c632 k n_t n_rows v_size v_stations r_rows) sz) o_r (wd_04c632 k n_t n_rows v_size v_stations r_rows)) 0 0 (va_A (wd_04c632 k n_t n_rows v_size v_stations r_rows) sz) := by
  refine g_entry (cc := cX0_loops) (maxL := 2) (ret := (some .int)) (lv := [(0, .ref n_t)]) (by decide +kernel) rfl (Nat.le_of_ble_eq_true rfl) rfl (fun p e s m below meth c ls hx hb hr hml hts hown hlk hnm hsz hG hA hP hD hS hl => ?_)
  exact k_X0_loops hx hb hml hts hown hG hA F n_t n_rows v_size v_stations r_rows o_r (fun pc H locs ls v hd ho hP hD hS => by cases ho; exact g_ireti hx hb hr hlk hP hD hS hd) s.heap [] ls hl hP hD hS hm
end
section
set_option maxHeartbeats 4000000 in
set_option maxRecDepth 100000 in
theorem k_X0_spare {p : Program} {l : Launch} {e : Env} {s : State} {m : MethodId} {args : Array Value} {below : List Frame} {meth : Method} {c : Code} {A : Nat → Prop} {Q : State → Prop} {dC : Nat → ClassId} {dI : Nat → Nat → Nat} {k : Nat → ClassId} (hx : p.tables.exec = Jvm.exec) (hb : c.code = cX0_spare) (hml : c.maxLocals = 4) (hts : ∀ w ∈ wsX0_spare, w.before args s = true) (hown : s.vm.findClass RX0 = some m.cls) (hG : gK dC dI k A s) (hA : ∀ q : Nat, s.heap.size ≤ q → A q) (F : Nat) (n_t n_rows : Nat) (v_size : Int32) (v_stations : Int32) (r_rows : Nat → Int32) (o_r : Int32) (RET : ∀ (pc : Nat) (H : Heap) (locs : List Loc) (ls : Array Slot) (v : Int32), decode cX0_spare pc = .ok (.ireturn, 1) → some v = some o_r → va_P (dC, dI) vwCl (wd_04c632 k n_t n_rows v_size v_stations r_rows) H → va_D A (wd_04c632 k n_t n_rows v_size v_stations r_rows) → va_S A s.heap H locs → W p l e rm_X0_spare s m args below meth c H locs 0 0 Q (F0 m pc ls [.int v])) (H : Heap) (locs : List Loc) (ls : Array Slot) (hl : lv_has ls 4 [(0, .ref n_t)]) (hP : va_P (dC, dI) vwCl (wd_04c632 k n_t n_rows v_size v_stations r_rows) H) (hD : va_D A (wd_04c632 k n_t n_rows v_size v_stations r_rows)) (hS : va_S A s.heap H locs) (hm : f_X0_spare F v_size r_rows = some o_r) : W p l e rm_X0_spare s m args below meth c H locs 0 0 Q (F0 m 0 ls []) := by
  have hinX0 : ∀ w ∈ u_ws RX0 TX0 3, w ∈ wsX0_spare := by decide +kernel
  have k0 := hts (.fieldLink RX0 19 "CaveLegs$Legs" "size" "I") (by decide +kernel)
  have L_9 : ∀ (n9 : Nat) (x1 : Int32) (x2 : Int32) (x3 : Int32) (H : Heap) (locs : List Loc) (ls : Array Slot), lv_has ls 4 [(0, .ref n_t), (1, .int x1), (2, .int x2), (3, .int x3)] → va_P (dC, dI) vwCl (wd_04c632 k n_t n_rows v_size v_stations r_rows) H → va_D A (wd_04c632 k n_t n_rows v_size v_stations r_rows) → va_S A s.heap H locs → f_X0_spare_L9 F v_size r_rows n9 x1 x2 x3 = some o_r → W p l e rm_X0_spare s m args below meth c H locs 0 0 Q (F0 m 9 ls []) := by
    intro n9
    induction n9 with
    | zero =>
      intro x1 x2 x3 H locs ls hl hP hD hS hm
      exact non_some hm
    | succ n9 ih9 =>
      have J_42 : ∀ (x1 : Int32) (x2 : Int32) (x3 : Int32) (H : Heap) (locs : List Loc) (ls : Array Slot), lv_has ls 4 [(0, .ref n_t), (1, .int x1), (2, .int x2), (3, .int x3)] → va_P (dC, dI) vwCl (wd_04c632 k n_t n_rows v_size v_stations r_rows) H → va_D A (wd_04c632 k n_t n_rows v_size v_stations r_rows) → va_S A s.heap H locs → f_X0_spare_J42 F v_size r_rows (f_X0_spare_L9 F v_size r_rows n9) x1 x2 x3 = some o_r → W p l e rm_X0_spare s m args below meth c H locs 0 0 Q (F0 m 42 ls []) := by
        intro x1 x2 x3 H locs ls hl hP hD hS hm
        unfold f_X0_spare_J42 at hm
        obtain ⟨t1, et1⟩ : ∃ y : Int32, y = x3 + (1 : Int32) := ⟨_, rfl⟩
        replace hm := (nmd_eq et1).trans hm
        refine lv_iinc (v := t1) (lv' := [(3, .int t1), (0, .ref n_t), (1, .int x1), (2, .int x2)]) hx hb dX0_spare_42 hl (k := 3) rfl (by rw [et1]; rfl) (by decide) rfl (fun ls hl => ?_)
        refine lv_goto (tgt := 9) hx hb dX0_spare_45 (by decide) ?_
        exact ih9 _ _ _ _ _ _ (lv_sub hl [1, 2, 3, 0] rfl) hP hD hS hm
      intro x1 x2 x3 H locs ls hl hP hD hS hm
      replace hm : f_X0_spare_B9 F v_size r_rows (f_X0_spare_L9 F v_size r_rows n9) x1 x2 x3 = some o_r := hm
      unfold f_X0_spare_B9 at hm
      refine lv_iload_n hx hb dX0_spare_9 rfl (lv_at hl 3 rfl) ?_
      refine lv_aload_n hx hb dX0_spare_10 rfl (lv_at hl 0 rfl) ?_
      refine va_get (D := (dC, dI)) (ci := 0) (v := .int v_size) (C := RX0) (T := TX0) (N := 3) hx hb hts hinX0 hown hG.1 hP 0 rfl rfl 1 (by decide) k0 (fun _ h9 => h9) rfl dX0_spare_11 ?_
      refine lv_icmp_ge (tgt := 48) hx hb dX0_spare_14 (by decide) (fun c2 => ?_) (fun c2 => ?_)
      · replace hm := ifp c2 hm
        refine lv_iload_n hx hb dX0_spare_48 rfl (lv_at hl 1 rfl) ?_
        exact RET _ _ _ _ _ dX0_spare_49 hm hP hD hS
      · replace hm := ifn c2 hm
        refine lv_aload_n hx hb dX0_spare_17 rfl (lv_at hl 0 rfl) ?_
        refine lv_aload_n hx hb dX0_spare_18 rfl (lv_at hl 0 rfl) ?_
        obtain ⟨r3, e4, hm⟩ := bnd1_some hm
        refine g_calli (w2 := (wd_04c632 k n_t n_rows v_size v_stations r_rows)) (va_runV (As := []) (rest := [.ref n_t]) ⟨hx, hb, hml, hown, hts⟩ (m_X0_all l dC dI k H.size n_t n_rows v_size v_stations  e4) (cwV 0 hts gX0_spare_X0_all rfl rfl rfl (by decide +kernel) ⟨Nat.le_of_ble_eq_true rfl, Nat.le_of_ble_eq_true rfl⟩) (g_preV hG hP hD hS hA [0] rfl (by decide) (ci := 0) (q0 := 0) rfl rfl) rfl rfl hl.1 rfl (lv_room (Nat.le_of_ble_eq_true rfl)) dX0_spare_19 ⟨Nat.le_of_ble_eq_true rfl, Nat.le_of_ble_eq_true rfl⟩) hP hD hS hA [0] [1] [1, 0] rfl rfl (by decide) (by decide) rfl (by decide) (fun H locs hP hD hS => ?_)
        refine lv_iconst (v := (1 : Int32)) hx hb dX0_spare_22 (by decide) ?_
        refine lv_iload_n hx hb dX0_spare_23 rfl (lv_at hl 3 rfl) ?_
        refine g_ishl hx hb dX0_spare_24 ?_
        refine lv_iconst (v := (-1 : Int32)) hx hb dX0_spare_25 (by decide) ?_
        refine lv_ixor hx hb dX0_spare_26 ?_
        refine lv_iand hx hb dX0_spare_27 ?_
        refine lv_iconst (v := (1 : Int32)) hx hb dX0_spare_28 (by decide) ?_
        obtain ⟨r5, e6, hm⟩ := bnd1_some hm
        refine g_calli (w2 := (wd_04c632 k n_t n_rows v_size v_stations r_rows)) (va_runV (As := [.int (r3 &&& ((shlI (1 : Int32) x3) ^^^ (-1 : Int32))), .int (1 : Int32)]) (rest := []) ⟨hx, hb, hml, hown, hts⟩ (m_X0_spread l dC dI k F H.size n_t n_rows v_size v_stations r_rows (r3 &&& ((shlI (1 : Int32) x3) ^^^ (-1 : Int32))) (1 : Int32) e6) (cwV 2 hts gX0_spare_X0_spread rfl rfl rfl (by decide +kernel) ⟨Nat.le_of_ble_eq_true rfl, Nat.le_of_ble_eq_true rfl⟩) (g_preV hG hP hD hS hA [0, 1] rfl (by decide) (ci := 0) (q0 := 0) rfl rfl) rfl rfl hl.1 rfl (lv_room (Nat.le_of_ble_eq_true rfl)) dX0_spare_29 ⟨Nat.le_of_ble_eq_true rfl, Nat.le_of_ble_eq_true rfl⟩) hP hD hS hA [0, 1] [] [0, 1] rfl rfl (by decide) (by decide) rfl (by decide) (fun H locs hP hD hS => ?_)
        refine lv_iload_n hx hb dX0_spare_32 rfl (lv_at hl 2 rfl) ?_
        refine lv_icmp_ne (tgt := 42) hx hb dX0_spare_33 (by decide) (fun c7 => ?_) (fun c7 => ?_)
        · replace hm := ifn c7 hm
          exact J_42 _ _ _ _ _ _ (lv_sub hl [0, 1, 2, 3] rfl) hP hD hS hm
        · replace hm := ifp c7 hm
          refine lv_iload_n hx hb dX0_spare_36 rfl (lv_at hl 1 rfl) ?_
          refine lv_iconst (v := (1 : Int32)) hx hb dX0_spare_37 (by decide) ?_
          refine lv_iload_n hx hb dX0_spare_38 rfl (lv_at hl 3 rfl) ?_
          refine g_ishl hx hb dX0_spare_39 ?_
          refine lv_ior hx hb dX0_spare_40 ?_
          refine lv_topi (fun t8 et8 => ?_)
          replace hm := (nmd_eq et8).trans hm
          refine lv_istore_n (lv' := [(1, .int t8), (0, .ref n_t), (2, .int x2), (3, .int x3)]) hx hb dX0_spare_41 rfl hl (by decide) rfl (fun ls hl => ?_)
          exact J_42 _ _ _ _ _ _ (lv_sub hl [1, 0, 2, 3] rfl) hP hD hS hm
  unfold f_X0_spare at hm
  refine lv_iconst (v := (0 : Int32)) hx hb dX0_spare_0 (by decide) ?_
  refine lv_istore_n (lv' := [(1, .int (0 : Int32)), (0, .ref n_t)]) hx hb dX0_spare_1 rfl hl (by decide) rfl (fun ls hl => ?_)
  refine lv_aload_n hx hb dX0_spare_2 rfl (lv_at hl 1 rfl) ?_
  obtain ⟨r9, e10, hm⟩ := bnd1_some hm
  refine g_calli (w2 := (wd_04c632 k n_t n_rows v_size v_stations r_rows)) (va_runV (As := []) (rest := []) ⟨hx, hb, hml, hown, hts⟩ (m_X0_connected l dC dI k F H.size n_t n_rows v_size v_stations r_rows  e10) (cwV 0 hts gX0_spare_X0_connected rfl rfl rfl (by decide +kernel) ⟨Nat.le_of_ble_eq_true rfl, Nat.le_of_ble_eq_true rfl⟩) (g_preV hG hP hD hS hA [0, 1] rfl (by decide) (ci := 0) (q0 := 0) rfl rfl) rfl rfl hl.1 rfl (lv_room (Nat.le_of_ble_eq_true rfl)) dX0_spare_3 ⟨Nat.le_of_ble_eq_true rfl, Nat.le_of_ble_eq_true rfl⟩) hP hD hS hA [0, 1] [] [0, 1] rfl rfl (by decide) (by decide) rfl (by decide) (fun H locs hP hD hS => ?_)
  refine lv_istore_n (lv' := [(2, .int r9), (1, .int (0 : Int32)), (0, .ref n_t)]) hx hb dX0_spare_6 rfl hl (by decide) rfl (fun ls hl => ?_)
  refine lv_iconst (v := (0 : Int32)) hx hb dX0_spare_7 (by decide) ?_
  refine lv_istore_n (lv' := [(3, .int (0 : Int32)), (2, .int r9), (1, .int (0 : Int32)), (0, .ref n_t)]) hx hb dX0_spare_8 rfl hl (by decide) rfl (fun ls hl => ?_)
  exact L_9 F _ _ _ _ _ _ (lv_sub hl [3, 2, 1, 0] rfl) hP hD hS hm
set_option maxRecDepth 100000 in
theorem m_X0_spare (l : Launch) (dC : Nat → ClassId) (dI : Nat → Nat → Nat) (k : Nat → ClassId) (F : Nat) (sz : Nat) (n_t n_rows : Nat) (v_size : Int32) (v_stations : Int32) (r_rows : Nat → Int32) {o_r : Int32} (hm : f_X0_spare F v_size r_rows = some o_r) : Met l yX0_spare wsX0_spare rm_X0_spare (gPre dC dI k [.ref n_t] sz (wd_04c632 k n_t n_rows v_size v_stations r_rows)) (gQI dC dI (va_A (wd_04c632 k n_t n_rows v_size v_stations r_rows) sz) o_r (wd_04c632 k n_t n_rows v_size v_stations r_rows)) 0 0 (va_A (wd_04c632 k n_t n_rows v_size v_stations r_rows) sz) := by
  refine g_entry (cc := cX0_spare) (maxL := 4) (ret := (some .int)) (lv := [(0, .ref n_t)]) (by decide +kernel) rfl (Nat.le_of_ble_eq_true rfl) rfl (fun p e s m below meth c ls hx hb hr hml hts hown hlk hnm hsz hG hA hP hD hS hl => ?_)
  exact k_X0_spare hx hb hml hts hown hG hA F n_t n_rows v_size v_stations r_rows o_r (fun pc H locs ls v hd ho hP hD hS => by cases ho; exact g_ireti hx hb hr hlk hP hD hS hd) s.heap [] ls hl hP hD hS hm
end
section
set_option maxHeartbeats 4000000 in
set_option maxRecDepth 100000 in
theorem k_X0_reached {p : Program} {l : Launch} {e : Env} {s : State} {m : MethodId} {args : Array Value} {below : List Frame} {meth : Method} {c : Code} {A : Nat → Prop} {Q : State → Prop} {dC : Nat → ClassId} {dI : Nat → Nat → Nat} {k : Nat → ClassId} (hx : p.tables.exec = Jvm.exec) (hb : c.code = cX0_reached) (hml : c.maxLocals = 2) (hts : ∀ w ∈ wsX0_reached, w.before args s = true) (hown : s.vm.findClass RX0 = some m.cls) (hG : gK dC dI k A s) (hA : ∀ q : Nat, s.heap.size ≤ q → A q) (F : Nat) (n_t n_rows : Nat) (v_size : Int32) (v_stations : Int32) (r_rows : Nat → Int32) (x1 : Int32) (o_r : Int32) (RET : ∀ (pc : Nat) (H : Heap) (locs : List Loc) (ls : Array Slot) (v : Int32), decode cX0_reached pc = .ok (.ireturn, 1) → some v = some o_r → va_P (dC, dI) vwCl (wd_04c632 k n_t n_rows v_size v_stations r_rows) H → va_D A (wd_04c632 k n_t n_rows v_size v_stations r_rows) → va_S A s.heap H locs → W p l e rm_X0_reached s m args below meth c H locs 0 0 Q (F0 m pc ls [.int v])) (H : Heap) (locs : List Loc) (ls : Array Slot) (hl : lv_has ls 2 [(0, .ref n_t), (1, .int x1)]) (hP : va_P (dC, dI) vwCl (wd_04c632 k n_t n_rows v_size v_stations r_rows) H) (hD : va_D A (wd_04c632 k n_t n_rows v_size v_stations r_rows)) (hS : va_S A s.heap H locs) (hm : f_X0_reached F x1 v_size r_rows = some o_r) : W p l e rm_X0_reached s m args below meth c H locs 0 0 Q (F0 m 0 ls []) := by
  unfold f_X0_reached at hm
  refine lv_aload_n hx hb dX0_reached_0 rfl (lv_at hl 0 rfl) ?_
  refine lv_aload_n hx hb dX0_reached_1 rfl (lv_at hl 0 rfl) ?_
  refine lv_iload_n hx hb dX0_reached_2 rfl (lv_at hl 1 rfl) ?_
  obtain ⟨r1, e2, hm⟩ := bnd1_some hm
  refine g_calli (w2 := (wd_04c632 k n_t n_rows v_size v_stations r_rows)) (va_runV (As := [.int x1]) (rest := [.ref n_t]) ⟨hx, hb, hml, hown, hts⟩ (m_X0_open l dC dI k F H.size n_t n_rows v_size v_stations r_rows x1 e2) (cwV 1 hts gX0_reached_X0_open rfl rfl rfl (by decide +kernel) ⟨Nat.le_of_ble_eq_true rfl, Nat.le_of_ble_eq_true rfl⟩) (g_preV hG hP hD hS hA [0, 1] rfl (by decide) (ci := 0) (q0 := 0) rfl rfl) rfl rfl hl.1 rfl (lv_room (Nat.le_of_ble_eq_true rfl)) dX0_reached_3 ⟨Nat.le_of_ble_eq_true rfl, Nat.le_of_ble_eq_true rfl⟩) hP hD hS hA [0, 1] [] [0, 1] rfl rfl (by decide) (by decide) rfl (by decide) (fun H locs hP hD hS => ?_)
  refine lv_iconst (v := (1 : Int32)) hx hb dX0_reached_6 (by decide) ?_
  obtain ⟨r3, e4, hm⟩ := bnd1_some hm
  refine g_calli (w2 := (wd_04c632 k n_t n_rows v_size v_stations r_rows)) (va_runV (As := [.int r1, .int (1 : Int32)]) (rest := []) ⟨hx, hb, hml, hown, hts⟩ (m_X0_spread l dC dI k F H.size n_t n_rows v_size v_stations r_rows r1 (1 : Int32) e4) (cwV 2 hts gX0_reached_X0_spread rfl rfl rfl (by decide +kernel) ⟨Nat.le_of_ble_eq_true rfl, Nat.le_of_ble_eq_true rfl⟩) (g_preV hG hP hD hS hA [0, 1] rfl (by decide) (ci := 0) (q0 := 0) rfl rfl) rfl rfl hl.1 rfl (lv_room (Nat.le_of_ble_eq_true rfl)) dX0_reached_7 ⟨Nat.le_of_ble_eq_true rfl, Nat.le_of_ble_eq_true rfl⟩) hP hD hS hA [0, 1] [] [0, 1] rfl rfl (by decide) (by decide) rfl (by decide) (fun H locs hP hD hS => ?_)
  exact RET _ _ _ _ _ dX0_reached_10 hm hP hD hS
set_option maxRecDepth 100000 in
theorem m_X0_reached (l : Launch) (dC : Nat → ClassId) (dI : Nat → Nat → Nat) (k : Nat → ClassId) (F : Nat) (sz : Nat) (n_t n_rows : Nat) (v_size : Int32) (v_stations : Int32) (r_rows : Nat → Int32) (x1 : Int32) {o_r : Int32} (hm : f_X0_reached F x1 v_size r_rows = some o_r) : Met l yX0_reached wsX0_reached rm_X0_reached (gPre dC dI k [.ref n_t, .int x1] sz (wd_04c632 k n_t n_rows v_size v_stations r_rows)) (gQI dC dI (va_A (wd_04c632 k n_t n_rows v_size v_stations r_rows) sz) o_r (wd_04c632 k n_t n_rows v_size v_stations r_rows)) 0 0 (va_A (wd_04c632 k n_t n_rows v_size v_stations r_rows) sz) := by
  refine g_entry (cc := cX0_reached) (maxL := 2) (ret := (some .int)) (lv := [(0, .ref n_t), (1, .int x1)]) (by decide +kernel) rfl (Nat.le_of_ble_eq_true rfl) rfl (fun p e s m below meth c ls hx hb hr hml hts hown hlk hnm hsz hG hA hP hD hS hl => ?_)
  exact k_X0_reached hx hb hml hts hown hG hA F n_t n_rows v_size v_stations r_rows x1 o_r (fun pc H locs ls v hd ho hP hD hS => by cases ho; exact g_ireti hx hb hr hlk hP hD hS hd) s.heap [] ls hl hP hD hS hm
end
section
set_option maxHeartbeats 4000000 in
set_option maxRecDepth 100000 in
theorem k_X5_holds {p : Program} {l : Launch} {e : Env} {s : State} {m : MethodId} {args : Array Value} {below : List Frame} {meth : Method} {c : Code} {A : Nat → Prop} {Q : State → Prop} {dC : Nat → ClassId} {dI : Nat → Nat → Nat} {k : Nat → ClassId} (hx : p.tables.exec = Jvm.exec) (hb : c.code = cX5_holds) (hml : c.maxLocals = 2) (hts : ∀ w ∈ wsX5_holds, w.before args s = true) (hown : s.vm.findClass RX5 = some m.cls) (hG : gK dC dI k A s) (hA : ∀ q : Nat, s.heap.size ≤ q → A q)  (x0 : Int32) (x1 : Int32) (o_r : Int32) (RET : ∀ (pc : Nat) (H : Heap) (locs : List Loc) (ls : Array Slot) (v : Int32), decode cX5_holds pc = .ok (.ireturn, 1) → some v = some o_r → narrow .boolean (.int v) = .int v → va_P (dC, dI) vwCl [] H → va_D A [] → va_S A s.heap H locs → W p l e rm_X5_holds s m args below meth c H locs 0 0 Q (F0 m pc ls [.int v])) (H : Heap) (locs : List Loc) (ls : Array Slot) (hl : lv_has ls 2 [(0, .int x0), (1, .int x1)]) (hP : va_P (dC, dI) vwCl [] H) (hD : va_D A []) (hS : va_S A s.heap H locs) (hm : f_X5_holds x0 x1 = some o_r) : W p l e rm_X5_holds s m args below meth c H locs 0 0 Q (F0 m 0 ls []) := by
  unfold f_X5_holds at hm
  refine lv_iload_n hx hb dX5_holds_0 rfl (lv_at hl 1 rfl) ?_
  refine lv_if_lt (tgt := 22) hx hb dX5_holds_1 (by decide) (fun c1 => ?_) (fun c1 => ?_)
  · replace hm := ifp c1 hm
    refine lv_iconst (v := (0 : Int32)) hx hb dX5_holds_22 (by decide) ?_
    exact RET _ _ _ _ _ dX5_holds_23 hm (by decide +kernel) hP hD hS
  · replace hm := ifn c1 hm
    refine lv_iload_n hx hb dX5_holds_4 rfl (lv_at hl 1 rfl) ?_
    refine lv_bipush (v := (32 : Int32)) hx hb dX5_holds_5 (by decide) ?_
    refine lv_icmp_ge (tgt := 22) hx hb dX5_holds_7 (by decide) (fun c2 => ?_) (fun c2 => ?_)
    · replace hm := ifp c2 hm
      refine lv_iconst (v := (0 : Int32)) hx hb dX5_holds_22 (by decide) ?_
      exact RET _ _ _ _ _ dX5_holds_23 hm (by decide +kernel) hP hD hS
    · replace hm := ifn c2 hm
      refine lv_iload_n hx hb dX5_holds_10 rfl (lv_at hl 0 rfl) ?_
      refine lv_iload_n hx hb dX5_holds_11 rfl (lv_at hl 1 rfl) ?_
      refine g_ishr hx hb dX5_holds_12 ?_
      refine lv_iconst (v := (1 : Int32)) hx hb dX5_holds_13 (by decide) ?_
      refine lv_iand hx hb dX5_holds_14 ?_
      refine lv_if_eq (tgt := 22) hx hb dX5_holds_15 (by decide) (fun c3 => ?_) (fun c3 => ?_)
      · replace hm := ifp c3 hm
        refine lv_iconst (v := (0 : Int32)) hx hb dX5_holds_22 (by decide) ?_
        exact RET _ _ _ _ _ dX5_holds_23 hm (by decide +kernel) hP hD hS
      · replace hm := ifn c3 hm
        refine lv_iconst (v := (1 : Int32)) hx hb dX5_holds_18 (by decide) ?_
        refine lv_goto (tgt := 23) hx hb dX5_holds_19 (by decide) ?_
        exact RET _ _ _ _ _ dX5_holds_23 hm (by decide +kernel) hP hD hS
set_option maxRecDepth 100000 in
theorem m_X5_holds (l : Launch) (dC : Nat → ClassId) (dI : Nat → Nat → Nat) (k : Nat → ClassId) (sz : Nat)  (x0 : Int32) (x1 : Int32) {o_r : Int32} (hm : f_X5_holds x0 x1 = some o_r) : Met l yX5_holds wsX5_holds rm_X5_holds (gPre dC dI k [.int x0, .int x1] sz []) (gQI dC dI (va_A [] sz) o_r []) 0 0 (va_A [] sz) := by
  refine g_entry (cc := cX5_holds) (maxL := 2) (ret := (some .boolean)) (lv := [(0, .int x0), (1, .int x1)]) (by decide +kernel) rfl (Nat.le_of_ble_eq_true rfl) rfl (fun p e s m below meth c ls hx hb hr hml hts hown hlk hnm hsz hG hA hP hD hS hl => ?_)
  exact k_X5_holds hx hb hml hts hown hG hA x0 x1 o_r (fun pc H locs ls v hd ho hz hP hD hS => by cases ho; exact g_iretz hx hb hr hlk hP hD hS hz hd) s.heap [] ls hl hP hD hS hm
end
section
set_option maxHeartbeats 4000000 in
set_option maxRecDepth 100000 in
theorem k_X0_greatestWidth {p : Program} {l : Launch} {e : Env} {s : State} {m : MethodId} {args : Array Value} {below : List Frame} {meth : Method} {c : Code} {A : Nat → Prop} {Q : State → Prop} {dC : Nat → ClassId} {dI : Nat → Nat → Nat} {k : Nat → ClassId} (hx : p.tables.exec = Jvm.exec) (hb : c.code = cX0_greatestWidth) (hml : c.maxLocals = 5) (hts : ∀ w ∈ wsX0_greatestWidth, w.before args s = true) (hown : s.vm.findClass RX0 = some m.cls) (hG : gK dC dI k A s) (hA : ∀ q : Nat, s.heap.size ≤ q → A q) (F : Nat) (n_t n_rows : Nat) (v_size : Int32) (v_stations : Int32) (r_rows : Nat → Int32) (x1 : Int32) (x2 : Int32) (x3 : Int32) (o_r : Int32) (RET : ∀ (pc : Nat) (H : Heap) (locs : List Loc) (ls : Array Slot) (v : Int32), decode cX0_greatestWidth pc = .ok (.ireturn, 1) → some v = some o_r → va_P (dC, dI) vwCl (wd_04c632 k n_t n_rows v_size v_stations r_rows) H → va_D A (wd_04c632 k n_t n_rows v_size v_stations r_rows) → va_S A s.heap H locs → W p l e rm_X0_greatestWidth s m args below meth c H locs 0 0 Q (F0 m pc ls [.int v])) (H : Heap) (locs : List Loc) (ls : Array Slot) (hl : lv_has ls 5 [(0, .ref n_t), (1, .int x1), (2, .int x2), (3, .int x3)]) (hP : va_P (dC, dI) vwCl (wd_04c632 k n_t n_rows v_size v_stations r_rows) H) (hD : va_D A (wd_04c632 k n_t n_rows v_size v_stations r_rows)) (hS : va_S A s.heap H locs) (hm : f_X0_greatestWidth F x1 x2 x3 v_size r_rows = some o_r) : W p l e rm_X0_greatestWidth s m args below meth c H locs 0 0 Q (F0 m 0 ls []) := by
  have k0 := hts (.initialized RX5) (by decide +kernel)
  have k1 := hts (.static yX5_holds) (by decide +kernel)
  have L_12 : ∀ (n12 : Nat) (x1 : Int32) (x2 : Int32) (x3 : Int32) (x4 : Int32) (H : Heap) (locs : List Loc) (ls : Array Slot), lv_has ls 5 [(0, .ref n_t), (1, .int x1), (2, .int x2), (3, .int x3), (4, .int x4)] → va_P (dC, dI) vwCl (wd_04c632 k n_t n_rows v_size v_stations r_rows) H → va_D A (wd_04c632 k n_t n_rows v_size v_stations r_rows) → va_S A s.heap H locs → f_X0_greatestWidth_L12 F v_size r_rows n12 x1 x2 x3 x4 = some o_r → W p l e rm_X0_greatestWidth s m args below meth c H locs 0 0 Q (F0 m 12 ls []) := by
    intro n12
    induction n12 with
    | zero =>
      intro x1 x2 x3 x4 H locs ls hl hP hD hS hm
      exact non_some hm
    | succ n12 ih12 =>
      intro x1 x2 x3 x4 H locs ls hl hP hD hS hm
      replace hm : f_X0_greatestWidth_B12 F v_size r_rows (f_X0_greatestWidth_L12 F v_size r_rows n12) x1 x2 x3 x4 = some o_r := hm
      unfold f_X0_greatestWidth_B12 at hm
      refine lv_iload hx hb dX0_greatestWidth_12 (lv_at hl 4 rfl) ?_
      refine lv_if_le (tgt := 48) hx hb dX0_greatestWidth_14 (by decide) (fun c1 => ?_) (fun c1 => ?_)
      · replace hm := ifp c1 hm
        refine lv_iconst (v := (0 : Int32)) hx hb dX0_greatestWidth_48 (by decide) ?_
        exact RET _ _ _ _ _ dX0_greatestWidth_49 hm hP hD hS
      · replace hm := ifn c1 hm
        refine lv_aload_n hx hb dX0_greatestWidth_17 rfl (lv_at hl 0 rfl) ?_
        refine lv_iload_n hx hb dX0_greatestWidth_18 rfl (lv_at hl 1 rfl) ?_
        refine lv_aload_n hx hb dX0_greatestWidth_19 rfl (lv_at hl 0 rfl) ?_
        refine lv_iload hx hb dX0_greatestWidth_20 (lv_at hl 4 rfl) ?_
        obtain ⟨r2, e3, hm⟩ := bnd1_some hm
        refine g_calli (w2 := (wd_04c632 k n_t n_rows v_size v_stations r_rows)) (va_runV (As := [.int x4]) (rest := [.int x1, .ref n_t]) ⟨hx, hb, hml, hown, hts⟩ (m_X0_open l dC dI k F H.size n_t n_rows v_size v_stations r_rows x4 e3) (cwV 1 hts gX0_greatestWidth_X0_open rfl rfl rfl (by decide +kernel) ⟨Nat.le_of_ble_eq_true rfl, Nat.le_of_ble_eq_true rfl⟩) (g_preV hG hP hD hS hA [0, 1] rfl (by decide) (ci := 0) (q0 := 0) rfl rfl) rfl rfl hl.1 rfl (lv_room (Nat.le_of_ble_eq_true rfl)) dX0_greatestWidth_22 ⟨Nat.le_of_ble_eq_true rfl, Nat.le_of_ble_eq_true rfl⟩) hP hD hS hA [0, 1] [] [0, 1] rfl rfl (by decide) (by decide) rfl (by decide) (fun H locs hP hD hS => ?_)
        refine lv_iand hx hb dX0_greatestWidth_25 ?_
        refine lv_iconst (v := (1 : Int32)) hx hb dX0_greatestWidth_26 (by decide) ?_
        refine lv_iload_n hx hb dX0_greatestWidth_27 rfl (lv_at hl 2 rfl) ?_
        refine g_ishl hx hb dX0_greatestWidth_28 ?_
        obtain ⟨r4, e5, hm⟩ := bnd1_some hm
        refine g_calli (w2 := (wd_04c632 k n_t n_rows v_size v_stations r_rows)) (va_runV (As := [.int (x1 &&& r2), .int (shlI (1 : Int32) x2)]) (rest := []) ⟨hx, hb, hml, hown, hts⟩ (m_X0_spread l dC dI k F H.size n_t n_rows v_size v_stations r_rows (x1 &&& r2) (shlI (1 : Int32) x2) e5) (cwV 2 hts gX0_greatestWidth_X0_spread rfl rfl rfl (by decide +kernel) ⟨Nat.le_of_ble_eq_true rfl, Nat.le_of_ble_eq_true rfl⟩) (g_preV hG hP hD hS hA [0, 1] rfl (by decide) (ci := 0) (q0 := 0) rfl rfl) rfl rfl hl.1 rfl (lv_room (Nat.le_of_ble_eq_true rfl)) dX0_greatestWidth_29 ⟨Nat.le_of_ble_eq_true rfl, Nat.le_of_ble_eq_true rfl⟩) hP hD hS hA [0, 1] [] [0, 1] rfl rfl (by decide) (by decide) rfl (by decide) (fun H locs hP hD hS => ?_)
        refine lv_iload_n hx hb dX0_greatestWidth_32 rfl (lv_at hl 3 rfl) ?_
        obtain ⟨r6, e7, hm⟩ := bnd1_some hm
        refine g_calli (w2 := (wd_04c632 k n_t n_rows v_size v_stations r_rows)) (va_runSN (As := [.int r4, .int x3]) (rest := []) ⟨hx, hb, hml, hown, hts⟩ (m_X5_holds l dC dI k H.size  r4 x3 e7) ⟨va_cnB 2 hts gX0_greatestWidth_X5_holds_n73 rfl rfl rfl hG.2.1.2.2.2.2.2.2.2.2.1 k0 (by decide +kernel) ⟨Nat.le_of_ble_eq_true rfl, Nat.le_of_ble_eq_true rfl⟩, k1, trivial⟩ (g_preS hG hP hD hS hA [] rfl (by decide)) rfl rfl hl.1 rfl (lv_room (Nat.le_of_ble_eq_true rfl)) dX0_greatestWidth_33 ⟨Nat.le_of_ble_eq_true rfl, Nat.le_of_ble_eq_true rfl⟩) hP hD hS hA [] [0, 1] [0, 1] rfl rfl (by decide) (by decide) rfl (by decide) (fun H locs hP hD hS => ?_)
        refine lv_if_eq (tgt := 42) hx hb dX0_greatestWidth_36 (by decide) (fun c8 => ?_) (fun c8 => ?_)
        · replace hm := ifp c8 hm
          obtain ⟨t9, et9⟩ : ∃ y : Int32, y = x4 + (-1 : Int32) := ⟨_, rfl⟩
          replace hm := (nmd_eq et9).trans hm
          refine lv_iinc (v := t9) (lv' := [(4, .int t9), (0, .ref n_t), (1, .int x1), (2, .int x2), (3, .int x3)]) hx hb dX0_greatestWidth_42 hl (k := 4) rfl (by rw [et9]; rfl) (by decide) rfl (fun ls hl => ?_)
          refine lv_goto (tgt := 12) hx hb dX0_greatestWidth_45 (by decide) ?_
          exact ih12 _ _ _ _ _ _ _ (lv_sub hl [1, 2, 3, 4, 0] rfl) hP hD hS hm
        · replace hm := ifn c8 hm
          refine lv_iload hx hb dX0_greatestWidth_39 (lv_at hl 4 rfl) ?_
          exact RET _ _ _ _ _ dX0_greatestWidth_41 hm hP hD hS
  unfold f_X0_greatestWidth at hm
  refine lv_iload_n hx hb dX0_greatestWidth_0 rfl (lv_at hl 2 rfl) ?_
  refine lv_iload_n hx hb dX0_greatestWidth_1 rfl (lv_at hl 3 rfl) ?_
  refine lv_icmp_ne (tgt := 8) hx hb dX0_greatestWidth_2 (by decide) (fun c10 => ?_) (fun c10 => ?_)
  · replace hm := ifn c10 hm
    refine lv_bipush (v := (9 : Int32)) hx hb dX0_greatestWidth_8 (by decide) ?_
    refine lv_istore (lv' := [(4, .int (9 : Int32)), (0, .ref n_t), (1, .int x1), (2, .int x2), (3, .int x3)]) hx hb dX0_greatestWidth_10 hl (by decide) rfl (fun ls hl => ?_)
    exact L_12 F _ _ _ _ _ _ _ (lv_sub hl [1, 2, 3, 4, 0] rfl) hP hD hS hm
  · replace hm := ifp c10 hm
    refine lv_bipush (v := (10 : Int32)) hx hb dX0_greatestWidth_5 (by decide) ?_
    exact RET _ _ _ _ _ dX0_greatestWidth_7 hm hP hD hS
set_option maxRecDepth 100000 in
theorem m_X0_greatestWidth (l : Launch) (dC : Nat → ClassId) (dI : Nat → Nat → Nat) (k : Nat → ClassId) (F : Nat) (sz : Nat) (n_t n_rows : Nat) (v_size : Int32) (v_stations : Int32) (r_rows : Nat → Int32) (x1 : Int32) (x2 : Int32) (x3 : Int32) {o_r : Int32} (hm : f_X0_greatestWidth F x1 x2 x3 v_size r_rows = some o_r) : Met l yX0_greatestWidth wsX0_greatestWidth rm_X0_greatestWidth (gPre dC dI k [.ref n_t, .int x1, .int x2, .int x3] sz (wd_04c632 k n_t n_rows v_size v_stations r_rows)) (gQI dC dI (va_A (wd_04c632 k n_t n_rows v_size v_stations r_rows) sz) o_r (wd_04c632 k n_t n_rows v_size v_stations r_rows)) 0 0 (va_A (wd_04c632 k n_t n_rows v_size v_stations r_rows) sz) := by
  refine g_entry (cc := cX0_greatestWidth) (maxL := 5) (ret := (some .int)) (lv := [(0, .ref n_t), (1, .int x1), (2, .int x2), (3, .int x3)]) (by decide +kernel) rfl (Nat.le_of_ble_eq_true rfl) rfl (fun p e s m below meth c ls hx hb hr hml hts hown hlk hnm hsz hG hA hP hD hS hl => ?_)
  exact k_X0_greatestWidth hx hb hml hts hown hG hA F n_t n_rows v_size v_stations r_rows x1 x2 x3 o_r (fun pc H locs ls v hd ho hP hD hS => by cases ho; exact g_ireti hx hb hr hlk hP hD hS hd) s.heap [] ls hl hP hD hS hm
end
section
set_option maxHeartbeats 4000000 in
set_option maxRecDepth 100000 in
theorem k_J7_fill_53178 {p : Program} {l : Launch} {e : Env} {s : State} {m : MethodId} {args : Array Value} {below : List Frame} {meth : Method} {c : Code} {A : Nat → Prop} {Q : State → Prop} {dC : Nat → ClassId} {dI : Nat → Nat → Nat} {k : Nat → ClassId} (hx : p.tables.exec = Jvm.exec) (hb : c.code = cJ7_fill_53178) (hml : c.maxLocals = 4) (hts : ∀ w ∈ wsJ7_fill_53178, w.before args s = true) (hown : s.vm.findClass RJ7 = some m.cls) (hG : gK dC dI k A s) (hA : ∀ q : Nat, s.heap.size ≤ q → A q) (F : Nat) (n_p0 : Nat) (r_p0 : Nat → Int32) (x1 : Int32) (o_r_p0 : (Nat → Int32)) (RET : ∀ (pc : Nat) (H : Heap) (locs : List Loc) (ls : Array Slot) (q_r_p0 : Nat → Int32), decode cJ7_fill_53178 pc = .ok (.return_, 1) → some q_r_p0 = some o_r_p0 → va_P (dC, dI) vwCl (wd_d3b13f k n_p0 q_r_p0) H → va_D A (wd_d3b13f k n_p0 q_r_p0) → va_S A s.heap H locs → W p l e rm_J7_fill_53178 s m args below meth c H locs 0 0 Q (F0 m pc ls [])) (H : Heap) (locs : List Loc) (ls : Array Slot) (hl : lv_has ls 4 [(0, .ref n_p0), (1, .int x1)]) (hP : va_P (dC, dI) vwCl (wd_d3b13f k n_p0 r_p0) H) (hD : va_D A (wd_d3b13f k n_p0 r_p0)) (hS : va_S A s.heap H locs) (hm : f_J7_fill_53178 F x1 r_p0 = some o_r_p0) : W p l e rm_J7_fill_53178 s m args below meth c H locs 0 0 Q (F0 m 0 ls []) := by
  have L_5 : ∀ (n5 : Nat) (r_p0 : Nat → Int32) (x1 : Int32) (x2 : Int32) (x3 : Int32) (H : Heap) (locs : List Loc) (ls : Array Slot), lv_has ls 4 [(0, .ref n_p0), (1, .int x1), (2, .int x2), (3, .int x3)] → va_P (dC, dI) vwCl (wd_d3b13f k n_p0 r_p0) H → va_D A (wd_d3b13f k n_p0 r_p0) → va_S A s.heap H locs → f_J7_fill_53178_L5 F n5 r_p0 x1 x2 x3 = some o_r_p0 → W p l e rm_J7_fill_53178 s m args below meth c H locs 0 0 Q (F0 m 5 ls []) := by
    intro n5
    induction n5 with
    | zero =>
      intro r_p0 x1 x2 x3 H locs ls hl hP hD hS hm
      exact non_some hm
    | succ n5 ih5 =>
      intro r_p0 x1 x2 x3 H locs ls hl hP hD hS hm
      replace hm : f_J7_fill_53178_B5 F (f_J7_fill_53178_L5 F n5) r_p0 x1 x2 x3 = some o_r_p0 := hm
      unfold f_J7_fill_53178_B5 at hm
      refine lv_iload_n hx hb dJ7_fill_53178_5 rfl (lv_at hl 2 rfl) ?_
      refine lv_iload_n hx hb dJ7_fill_53178_6 rfl (lv_at hl 3 rfl) ?_
      refine lv_icmp_ge (tgt := 20) hx hb dJ7_fill_53178_7 (by decide) (fun c1 => ?_) (fun c1 => ?_)
      · replace hm := ifp c1 hm
        exact RET _ _ _ _ _ dJ7_fill_53178_20 hm hP hD hS
      · replace hm := ifn c1 hm
        refine lv_aload_n hx hb dJ7_fill_53178_10 rfl (lv_at hl 0 rfl) ?_
        refine lv_iload_n hx hb dJ7_fill_53178_11 rfl (lv_at hl 2 rfl) ?_
        refine lv_iload_n hx hb dJ7_fill_53178_12 rfl (lv_at hl 1 rfl) ?_
        obtain ⟨hi2, hm⟩ := chk_some hm
        refine va_iast hx hb hG.1 hP hD hS 0 0 rfl rfl hi2 dJ7_fill_53178_13 (fun H locs hP hD hS => ?_)
        replace hP : va_P (dC, dI) vwCl (wd_d3b13f k n_p0 (upd r_p0 (Int32.toNatClampNeg x2) x1)) H := hP
        replace hD : va_D A (wd_d3b13f k n_p0 (upd r_p0 (Int32.toNatClampNeg x2) x1)) := hD
        obtain ⟨t3, et3⟩ : ∃ y : Int32, y = x2 + (1 : Int32) := ⟨_, rfl⟩
        replace hm := (nmd_eq et3).trans hm
        refine lv_iinc (v := t3) (lv' := [(2, .int t3), (0, .ref n_p0), (1, .int x1), (3, .int x3)]) hx hb dJ7_fill_53178_14 hl (k := 2) rfl (by rw [et3]; rfl) (by decide) rfl (fun ls hl => ?_)
        refine lv_goto (tgt := 5) hx hb dJ7_fill_53178_17 (by decide) ?_
        exact ih5 _ _ _ _ _ _ _ (lv_sub hl [1, 2, 0, 3] rfl) hP hD hS hm
  unfold f_J7_fill_53178 at hm
  refine lv_iconst (v := (0 : Int32)) hx hb dJ7_fill_53178_0 (by decide) ?_
  refine lv_istore_n (lv' := [(2, .int (0 : Int32)), (0, .ref n_p0), (1, .int x1)]) hx hb dJ7_fill_53178_1 rfl hl (by decide) rfl (fun ls hl => ?_)
  refine lv_aload_n hx hb dJ7_fill_53178_2 rfl (lv_at hl 1 rfl) ?_
  refine va_alen (v := (18 : Int32)) hx hb hG.1 hP 0 0 rfl rfl rfl dJ7_fill_53178_3 ?_
  refine lv_istore_n (lv' := [(3, .int (18 : Int32)), (2, .int (0 : Int32)), (0, .ref n_p0), (1, .int x1)]) hx hb dJ7_fill_53178_4 rfl hl (by decide) rfl (fun ls hl => ?_)
  exact L_5 F _ _ _ _ _ _ _ (lv_sub hl [2, 3, 1, 0] rfl) hP hD hS hm
set_option maxRecDepth 100000 in
theorem m_J7_fill_53178 (l : Launch) (dC : Nat → ClassId) (dI : Nat → Nat → Nat) (k : Nat → ClassId) (F : Nat) (sz : Nat) (n_p0 : Nat) (r_p0 : Nat → Int32) (x1 : Int32) {o_r_p0 : (Nat → Int32)} (hm : f_J7_fill_53178 F x1 r_p0 = some o_r_p0) : Met l yJ7_fill_53178 wsJ7_fill_53178 rm_J7_fill_53178 (gPre dC dI k [.ref n_p0, .int x1] sz (wd_d3b13f k n_p0 r_p0)) (gQV dC dI (va_A (wd_d3b13f k n_p0 r_p0) sz) (wd_d3b13f k n_p0 o_r_p0)) 0 0 (va_A (wd_d3b13f k n_p0 r_p0) sz) := by
  refine g_entryF (cc := cJ7_fill_53178) (maxL := 4) (ret := none) (lv := [(0, .ref n_p0), (1, .int x1)]) (by decide +kernel) rfl (Nat.le_of_ble_eq_true rfl) rfl (fun p e s m below meth c ls hx hb hr hml hts hown hlk hnm hsz hG hA hP hD hS hl => ?_)
  exact k_J7_fill_53178 hx hb hml hts hown hG hA F n_p0 r_p0 x1 o_r_p0 (fun pc H locs ls q_r_p0 hd ho hP hD hS => by cases ho; exact g_vret hx hb hr hlk hP hD hS hd) s.heap [] ls hl hP hD hS hm
end
section
set_option maxHeartbeats 4000000 in
set_option maxRecDepth 100000 in
theorem k_J7_fill_d0a16 {p : Program} {l : Launch} {e : Env} {s : State} {m : MethodId} {args : Array Value} {below : List Frame} {meth : Method} {c : Code} {A : Nat → Prop} {Q : State → Prop} {dC : Nat → ClassId} {dI : Nat → Nat → Nat} {k : Nat → ClassId} (hx : p.tables.exec = Jvm.exec) (hb : c.code = cJ7_fill_d0a16) (hml : c.maxLocals = 5) (hts : ∀ w ∈ wsJ7_fill_d0a16, w.before args s = true) (hown : s.vm.findClass RJ7 = some m.cls) (hG : gK dC dI k A s) (hA : ∀ q : Nat, s.heap.size ≤ q → A q) (F : Nat) (n_p0 : Nat) (r_p0 : Nat → Int64) (x1 : Int64) (o_r_p0 : (Nat → Int64)) (RET : ∀ (pc : Nat) (H : Heap) (locs : List Loc) (ls : Array Slot) (q_r_p0 : Nat → Int64), decode cJ7_fill_d0a16 pc = .ok (.return_, 1) → some q_r_p0 = some o_r_p0 → va_P (dC, dI) vwCl (wd_eb0b37 k n_p0 q_r_p0) H → va_D A (wd_eb0b37 k n_p0 q_r_p0) → va_S A s.heap H locs → W p l e rm_J7_fill_d0a16 s m args below meth c H locs 0 0 Q (F0 m pc ls [])) (H : Heap) (locs : List Loc) (ls : Array Slot) (hl : lv_has ls 5 [(0, .ref n_p0), (1, .long x1)]) (hP : va_P (dC, dI) vwCl (wd_eb0b37 k n_p0 r_p0) H) (hD : va_D A (wd_eb0b37 k n_p0 r_p0)) (hS : va_S A s.heap H locs) (hm : f_J7_fill_d0a16 F x1 r_p0 = some o_r_p0) : W p l e rm_J7_fill_d0a16 s m args below meth c H locs 0 0 Q (F0 m 0 ls []) := by
  have L_6 : ∀ (n6 : Nat) (r_p0 : Nat → Int64) (x1 : Int64) (x3 : Int32) (x4 : Int32) (H : Heap) (locs : List Loc) (ls : Array Slot), lv_has ls 5 [(0, .ref n_p0), (1, .long x1), (3, .int x3), (4, .int x4)] → va_P (dC, dI) vwCl (wd_eb0b37 k n_p0 r_p0) H → va_D A (wd_eb0b37 k n_p0 r_p0) → va_S A s.heap H locs → f_J7_fill_d0a16_L6 F n6 r_p0 x1 x3 x4 = some o_r_p0 → W p l e rm_J7_fill_d0a16 s m args below meth c H locs 0 0 Q (F0 m 6 ls []) := by
    intro n6
    induction n6 with
    | zero =>
      intro r_p0 x1 x3 x4 H locs ls hl hP hD hS hm
      exact non_some hm
    | succ n6 ih6 =>
      intro r_p0 x1 x3 x4 H locs ls hl hP hD hS hm
      replace hm : f_J7_fill_d0a16_B6 F (f_J7_fill_d0a16_L6 F n6) r_p0 x1 x3 x4 = some o_r_p0 := hm
      unfold f_J7_fill_d0a16_B6 at hm
      refine lv_iload_n hx hb dJ7_fill_d0a16_6 rfl (lv_at hl 2 rfl) ?_
      refine lv_iload hx hb dJ7_fill_d0a16_7 (lv_at hl 3 rfl) ?_
      refine lv_icmp_ge (tgt := 22) hx hb dJ7_fill_d0a16_9 (by decide) (fun c1 => ?_) (fun c1 => ?_)
      · replace hm := ifp c1 hm
        exact RET _ _ _ _ _ dJ7_fill_d0a16_22 hm hP hD hS
      · replace hm := ifn c1 hm
        refine lv_aload_n hx hb dJ7_fill_d0a16_12 rfl (lv_at hl 0 rfl) ?_
        refine lv_iload_n hx hb dJ7_fill_d0a16_13 rfl (lv_at hl 2 rfl) ?_
        refine lv_lload_n hx hb dJ7_fill_d0a16_14 rfl (lv_at hl 1 rfl) ?_
        obtain ⟨hi2, hm⟩ := chk_some hm
        refine va_last hx hb hG.1 hP hD hS 0 1 rfl rfl hi2 dJ7_fill_d0a16_15 (fun H locs hP hD hS => ?_)
        replace hP : va_P (dC, dI) vwCl (wd_eb0b37 k n_p0 (vp_updL r_p0 (Int32.toNatClampNeg x3) x1)) H := hP
        replace hD : va_D A (wd_eb0b37 k n_p0 (vp_updL r_p0 (Int32.toNatClampNeg x3) x1)) := hD
        obtain ⟨t3, et3⟩ : ∃ y : Int32, y = x3 + (1 : Int32) := ⟨_, rfl⟩
        replace hm := (nmd_eq et3).trans hm
        refine lv_iinc (v := t3) (lv' := [(3, .int t3), (0, .ref n_p0), (1, .long x1), (4, .int x4)]) hx hb dJ7_fill_d0a16_16 hl (k := 2) rfl (by rw [et3]; rfl) (by decide) rfl (fun ls hl => ?_)
        refine lv_goto (tgt := 6) hx hb dJ7_fill_d0a16_19 (by decide) ?_
        exact ih6 _ _ _ _ _ _ _ (lv_sub hl [1, 2, 0, 3] rfl) hP hD hS hm
  unfold f_J7_fill_d0a16 at hm
  refine lv_iconst (v := (0 : Int32)) hx hb dJ7_fill_d0a16_0 (by decide) ?_
  refine lv_istore_n (lv' := [(3, .int (0 : Int32)), (0, .ref n_p0), (1, .long x1)]) hx hb dJ7_fill_d0a16_1 rfl hl (by decide) rfl (fun ls hl => ?_)
  refine lv_aload_n hx hb dJ7_fill_d0a16_2 rfl (lv_at hl 1 rfl) ?_
  refine va_alen (v := (40 : Int32)) hx hb hG.1 hP 0 1 rfl rfl rfl dJ7_fill_d0a16_3 ?_
  refine lv_istore (lv' := [(4, .int (40 : Int32)), (3, .int (0 : Int32)), (0, .ref n_p0), (1, .long x1)]) hx hb dJ7_fill_d0a16_4 hl (by decide) rfl (fun ls hl => ?_)
  exact L_6 F _ _ _ _ _ _ _ (lv_sub hl [2, 3, 1, 0] rfl) hP hD hS hm
set_option maxRecDepth 100000 in
theorem m_J7_fill_d0a16 (l : Launch) (dC : Nat → ClassId) (dI : Nat → Nat → Nat) (k : Nat → ClassId) (F : Nat) (sz : Nat) (n_p0 : Nat) (r_p0 : Nat → Int64) (x1 : Int64) {o_r_p0 : (Nat → Int64)} (hm : f_J7_fill_d0a16 F x1 r_p0 = some o_r_p0) : Met l yJ7_fill_d0a16 wsJ7_fill_d0a16 rm_J7_fill_d0a16 (gPre dC dI k [.ref n_p0, .long x1] sz (wd_eb0b37 k n_p0 r_p0)) (gQV dC dI (va_A (wd_eb0b37 k n_p0 r_p0) sz) (wd_eb0b37 k n_p0 o_r_p0)) 0 0 (va_A (wd_eb0b37 k n_p0 r_p0) sz) := by
  refine g_entryF (cc := cJ7_fill_d0a16) (maxL := 5) (ret := none) (lv := [(0, .ref n_p0), (1, .long x1)]) (by decide +kernel) rfl (Nat.le_of_ble_eq_true rfl) rfl (fun p e s m below meth c ls hx hb hr hml hts hown hlk hnm hsz hG hA hP hD hS hl => ?_)
  exact k_J7_fill_d0a16 hx hb hml hts hown hG hA F n_p0 r_p0 x1 o_r_p0 (fun pc H locs ls q_r_p0 hd ho hP hD hS => by cases ho; exact g_vret hx hb hr hlk hP hD hS hd) s.heap [] ls hl hP hD hS hm
end
section
set_option maxHeartbeats 4000000 in
set_option maxRecDepth 100000 in
theorem k_X5_allows {p : Program} {l : Launch} {e : Env} {s : State} {m : MethodId} {args : Array Value} {below : List Frame} {meth : Method} {c : Code} {A : Nat → Prop} {Q : State → Prop} {dC : Nat → ClassId} {dI : Nat → Nat → Nat} {k : Nat → ClassId} (hx : p.tables.exec = Jvm.exec) (hb : c.code = cX5_allows) (hml : c.maxLocals = 2) (hts : ∀ w ∈ wsX5_allows, w.before args s = true) (hown : s.vm.findClass RX5 = some m.cls) (hG : gK dC dI k A s) (hA : ∀ q : Nat, s.heap.size ≤ q → A q)  (x0 : Int32) (x1 : Int32) (o_r : Int32) (RET : ∀ (pc : Nat) (H : Heap) (locs : List Loc) (ls : Array Slot) (v : Int32), decode cX5_allows pc = .ok (.ireturn, 1) → some v = some o_r → narrow .boolean (.int v) = .int v → va_P (dC, dI) vwCl [] H → va_D A [] → va_S A s.heap H locs → W p l e rm_X5_allows s m args below meth c H locs 0 0 Q (F0 m pc ls [.int v])) (H : Heap) (locs : List Loc) (ls : Array Slot) (hl : lv_has ls 2 [(0, .int x0), (1, .int x1)]) (hP : va_P (dC, dI) vwCl [] H) (hD : va_D A []) (hS : va_S A s.heap H locs) (hm : f_X5_allows x0 x1 = some o_r) : W p l e rm_X5_allows s m args below meth c H locs 0 0 Q (F0 m 0 ls []) := by
  unfold f_X5_allows at hm
  refine lv_iload_n hx hb dX5_allows_0 rfl (lv_at hl 0 rfl) ?_
  by_cases c1 : x0 = (0 : Int32)
  · replace hm := ifp c1 hm
    refine lv_tableIn (off := 31) (tgt := 32) hx hb dX5_allows_1 (by rw [c1]; decide) (by rw [c1]; decide) (by rw [c1]; rfl) (by decide) ?_
    refine lv_iload_n hx hb dX5_allows_32 rfl (lv_at hl 1 rfl) ?_
    refine lv_iconst (v := (1 : Int32)) hx hb dX5_allows_33 (by decide) ?_
    refine lv_icmp_lt (tgt := 47) hx hb dX5_allows_34 (by decide) (fun c2 => ?_) (fun c2 => ?_)
    · replace hm := ifp c2 hm
      refine lv_iconst (v := (0 : Int32)) hx hb dX5_allows_47 (by decide) ?_
      exact RET _ _ _ _ _ dX5_allows_48 hm (by decide +kernel) hP hD hS
    · replace hm := ifn c2 hm
      refine lv_iload_n hx hb dX5_allows_37 rfl (lv_at hl 1 rfl) ?_
      refine lv_bipush (v := (99 : Int32)) hx hb dX5_allows_38 (by decide) ?_
      refine lv_icmp_gt (tgt := 47) hx hb dX5_allows_40 (by decide) (fun c3 => ?_) (fun c3 => ?_)
      · replace hm := ifp c3 hm
        refine lv_iconst (v := (0 : Int32)) hx hb dX5_allows_47 (by decide) ?_
        exact RET _ _ _ _ _ dX5_allows_48 hm (by decide +kernel) hP hD hS
      · replace hm := ifn c3 hm
        refine lv_iconst (v := (1 : Int32)) hx hb dX5_allows_43 (by decide) ?_
        refine lv_goto (tgt := 48) hx hb dX5_allows_44 (by decide) ?_
        exact RET _ _ _ _ _ dX5_allows_48 hm (by decide +kernel) hP hD hS
  · replace hm := ifn c1 hm
    by_cases c4 : x0 = (1 : Int32)
    · replace hm := ifp c4 hm
      refine lv_tableIn (off := 48) (tgt := 49) hx hb dX5_allows_1 (by rw [c4]; decide) (by rw [c4]; decide) (by rw [c4]; rfl) (by decide) ?_
      refine lv_iload_n hx hb dX5_allows_49 rfl (lv_at hl 1 rfl) ?_
      refine lv_if_lt (tgt := 63) hx hb dX5_allows_50 (by decide) (fun c5 => ?_) (fun c5 => ?_)
      · replace hm := ifp c5 hm
        refine lv_iconst (v := (0 : Int32)) hx hb dX5_allows_63 (by decide) ?_
        exact RET _ _ _ _ _ dX5_allows_64 hm (by decide +kernel) hP hD hS
      · replace hm := ifn c5 hm
        refine lv_iload_n hx hb dX5_allows_53 rfl (lv_at hl 1 rfl) ?_
        refine lv_bipush (v := (11 : Int32)) hx hb dX5_allows_54 (by decide) ?_
        refine lv_icmp_gt (tgt := 63) hx hb dX5_allows_56 (by decide) (fun c6 => ?_) (fun c6 => ?_)
        · replace hm := ifp c6 hm
          refine lv_iconst (v := (0 : Int32)) hx hb dX5_allows_63 (by decide) ?_
          exact RET _ _ _ _ _ dX5_allows_64 hm (by decide +kernel) hP hD hS
        · replace hm := ifn c6 hm
          refine lv_iconst (v := (1 : Int32)) hx hb dX5_allows_59 (by decide) ?_
          refine lv_goto (tgt := 64) hx hb dX5_allows_60 (by decide) ?_
          exact RET _ _ _ _ _ dX5_allows_64 hm (by decide +kernel) hP hD hS
    · replace hm := ifn c4 hm
      by_cases c7 : x0 = (2 : Int32)
      · replace hm := ifp c7 hm
        refine lv_tableIn (off := 64) (tgt := 65) hx hb dX5_allows_1 (by rw [c7]; decide) (by rw [c7]; decide) (by rw [c7]; rfl) (by decide) ?_
        refine lv_iload_n hx hb dX5_allows_65 rfl (lv_at hl 1 rfl) ?_
        refine lv_if_lt (tgt := 78) hx hb dX5_allows_66 (by decide) (fun c8 => ?_) (fun c8 => ?_)
        · replace hm := ifp c8 hm
          refine lv_iconst (v := (0 : Int32)) hx hb dX5_allows_78 (by decide) ?_
          exact RET _ _ _ _ _ dX5_allows_79 hm (by decide +kernel) hP hD hS
        · replace hm := ifn c8 hm
          refine lv_iload_n hx hb dX5_allows_69 rfl (lv_at hl 1 rfl) ?_
          refine lv_iconst (v := (4 : Int32)) hx hb dX5_allows_70 (by decide) ?_
          refine lv_icmp_gt (tgt := 78) hx hb dX5_allows_71 (by decide) (fun c9 => ?_) (fun c9 => ?_)
          · replace hm := ifp c9 hm
            refine lv_iconst (v := (0 : Int32)) hx hb dX5_allows_78 (by decide) ?_
            exact RET _ _ _ _ _ dX5_allows_79 hm (by decide +kernel) hP hD hS
          · replace hm := ifn c9 hm
            refine lv_iconst (v := (1 : Int32)) hx hb dX5_allows_74 (by decide) ?_
            refine lv_goto (tgt := 79) hx hb dX5_allows_75 (by decide) ?_
            exact RET _ _ _ _ _ dX5_allows_79 hm (by decide +kernel) hP hD hS
      · replace hm := ifn c7 hm
        by_cases c10 : x0 = (3 : Int32)
        · replace hm := ifp c10 hm
          refine lv_tableIn (off := 79) (tgt := 80) hx hb dX5_allows_1 (by rw [c10]; decide) (by rw [c10]; decide) (by rw [c10]; rfl) (by decide) ?_
          refine lv_iload_n hx hb dX5_allows_80 rfl (lv_at hl 1 rfl) ?_
          refine lv_iconst (v := (1 : Int32)) hx hb dX5_allows_81 (by decide) ?_
          refine lv_icmp_lt (tgt := 95) hx hb dX5_allows_82 (by decide) (fun c11 => ?_) (fun c11 => ?_)
          · replace hm := ifp c11 hm
            refine lv_iconst (v := (0 : Int32)) hx hb dX5_allows_95 (by decide) ?_
            exact RET _ _ _ _ _ dX5_allows_96 hm (by decide +kernel) hP hD hS
          · replace hm := ifn c11 hm
            refine lv_iload_n hx hb dX5_allows_85 rfl (lv_at hl 1 rfl) ?_
            refine lv_bipush (v := (9 : Int32)) hx hb dX5_allows_86 (by decide) ?_
            refine lv_icmp_gt (tgt := 95) hx hb dX5_allows_88 (by decide) (fun c12 => ?_) (fun c12 => ?_)
            · replace hm := ifp c12 hm
              refine lv_iconst (v := (0 : Int32)) hx hb dX5_allows_95 (by decide) ?_
              exact RET _ _ _ _ _ dX5_allows_96 hm (by decide +kernel) hP hD hS
            · replace hm := ifn c12 hm
              refine lv_iconst (v := (1 : Int32)) hx hb dX5_allows_91 (by decide) ?_
              refine lv_goto (tgt := 96) hx hb dX5_allows_92 (by decide) ?_
              exact RET _ _ _ _ _ dX5_allows_96 hm (by decide +kernel) hP hD hS
        · replace hm := ifn c10 hm
          refine lv_tableOut (tgt := 97) hx hb dX5_allows_1 (by have qc1 := i32_ne c1 (z := 0) (by decide); have qc4 := i32_ne c4 (z := 1) (by decide); have qc7 := i32_ne c7 (z := 2) (by decide); have qc10 := i32_ne c10 (z := 3) (by decide); omega) (by decide) ?_
          refine lv_iconst (v := (0 : Int32)) hx hb dX5_allows_97 (by decide) ?_
          exact RET _ _ _ _ _ dX5_allows_98 hm (by decide +kernel) hP hD hS
set_option maxRecDepth 100000 in
theorem m_X5_allows (l : Launch) (dC : Nat → ClassId) (dI : Nat → Nat → Nat) (k : Nat → ClassId) (sz : Nat)  (x0 : Int32) (x1 : Int32) {o_r : Int32} (hm : f_X5_allows x0 x1 = some o_r) : Met l yX5_allows wsX5_allows rm_X5_allows (gPre dC dI k [.int x0, .int x1] sz []) (gQI dC dI (va_A [] sz) o_r []) 0 0 (va_A [] sz) := by
  refine g_entry (cc := cX5_allows) (maxL := 2) (ret := (some .boolean)) (lv := [(0, .int x0), (1, .int x1)]) (by decide +kernel) rfl (Nat.le_of_ble_eq_true rfl) rfl (fun p e s m below meth c ls hx hb hr hml hts hown hlk hnm hsz hG hA hP hD hS hl => ?_)
  exact k_X5_allows hx hb hml hts hown hG hA x0 x1 o_r (fun pc H locs ls v hd ho hz hP hD hS => by cases ho; exact g_iretz hx hb hr hlk hP hD hS hz hd) s.heap [] ls hl hP hD hS hm
end
