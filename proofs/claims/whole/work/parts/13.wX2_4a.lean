section
set_option maxHeartbeats 4000000 in
set_option maxRecDepth 100000 in
theorem k_X1_forget {p : Program} {l : Launch} {e : Env} {s : State} {m : MethodId} {args : Array Value} {below : List Frame} {meth : Method} {c : Code} {A : Nat → Prop} {Q : State → Prop} {dC : Nat → ClassId} {dI : Nat → Nat → Nat} {k : Nat → ClassId} (hx : p.tables.exec = Jvm.exec) (hb : c.code = cX1_forget) (hml : c.maxLocals = 1) (hts : ∀ w ∈ wsX1_forget, w.before args s = true) (hown : s.vm.findClass RX1 = some m.cls) (hG : gK dC dI k A s) (hA : ∀ q : Nat, s.heap.size ≤ q → A q) (n_t n_ring : Nat) (v_next : Int32) (v_depth : Int32) (o_v_depth : (Int32)) (RET : ∀ (pc : Nat) (H : Heap) (locs : List Loc) (ls : Array Slot) (q_v_depth : Int32), decode cX1_forget pc = .ok (.return_, 1) → some q_v_depth = some o_v_depth → va_P (dC, dI) vwCl (wd_c6d7bc k n_t n_ring v_next q_v_depth) H → va_D A (wd_c6d7bc k n_t n_ring v_next q_v_depth) → va_S A s.heap H locs → W p l e rm_X1_forget s m args below meth c H locs 0 0 Q (F0 m pc ls [])) (H : Heap) (locs : List Loc) (ls : Array Slot) (hl : lv_has ls 1 [(0, .ref n_t)]) (hP : va_P (dC, dI) vwCl (wd_c6d7bc k n_t n_ring v_next v_depth) H) (hD : va_D A (wd_c6d7bc k n_t n_ring v_next v_depth)) (hS : va_S A s.heap H locs) (hm : f_X1_forget v_depth = some o_v_depth) : W p l e rm_X1_forget s m args below meth c H locs 0 0 Q (F0 m 0 ls []) := by
  have hinX1 : ∀ w ∈ u_ws RX1 TX1 3, w ∈ wsX1_forget := by decide +kernel
  have k0 := hts (.fieldLink RX1 17 "CaveLegs$Past" "depth" "I") (by decide +kernel)
  unfold f_X1_forget at hm
  refine lv_aload_n hx hb dX1_forget_0 rfl (lv_at hl 0 rfl) ?_
  refine lv_iconst (v := (0 : Int32)) hx hb dX1_forget_1 (by decide) ?_
  refine va_put (D := (dC, dI)) (ci := 1) (v := .int (0 : Int32)) (ty := .int) (C := RX1) (T := TX1) (N := 3) hx hb hts hinX1 tyX1 tyX1_ok nmX1 hown hG.1 hP hD hS 0 rfl rfl 2 (by decide) k0 (fun _ h9 => h9) rfl (by decide +kernel) rfl rfl (Nat.le_of_ble_eq_true rfl) dX1_forget_2 (fun H locs hP hD hS => ?_)
  replace hP : va_P (dC, dI) vwCl (wd_c6d7bc k n_t n_ring v_next (0 : Int32)) H := hP
  replace hD : va_D A (wd_c6d7bc k n_t n_ring v_next (0 : Int32)) := hD
  exact RET _ _ _ _ _ dX1_forget_5 hm hP hD hS
set_option maxRecDepth 100000 in
theorem m_X1_forget (l : Launch) (dC : Nat → ClassId) (dI : Nat → Nat → Nat) (k : Nat → ClassId) (sz : Nat) (n_t n_ring : Nat) (v_next : Int32) (v_depth : Int32) {o_v_depth : (Int32)} (hm : f_X1_forget v_depth = some o_v_depth) : Met l yX1_forget wsX1_forget rm_X1_forget (gPre dC dI k [.ref n_t] sz (wd_c6d7bc k n_t n_ring v_next v_depth)) (gQV dC dI (va_A (wd_c6d7bc k n_t n_ring v_next v_depth) sz) (wd_c6d7bc k n_t n_ring v_next o_v_depth)) 0 0 (va_A (wd_c6d7bc k n_t n_ring v_next v_depth) sz) := by
  refine g_entry (cc := cX1_forget) (maxL := 1) (ret := none) (lv := [(0, .ref n_t)]) (by decide +kernel) rfl (Nat.le_of_ble_eq_true rfl) rfl (fun p e s m below meth c ls hx hb hr hml hts hown hlk hnm hsz hG hA hP hD hS hl => ?_)
  exact k_X1_forget hx hb hml hts hown hG hA n_t n_ring v_next v_depth o_v_depth (fun pc H locs ls q_v_depth hd ho hP hD hS => by cases ho; exact g_vret hx hb hr hlk hP hD hS hd) s.heap [] ls hl hP hD hS hm
end
section
set_option maxHeartbeats 4000000 in
set_option maxRecDepth 100000 in
theorem k_X2_add {p : Program} {l : Launch} {e : Env} {s : State} {m : MethodId} {args : Array Value} {below : List Frame} {meth : Method} {c : Code} {A : Nat → Prop} {Q : State → Prop} {dC : Nat → ClassId} {dI : Nat → Nat → Nat} {k : Nat → ClassId} (hx : p.tables.exec = Jvm.exec) (hb : c.code = cX2_add) (hml : c.maxLocals = 6) (hts : ∀ w ∈ wsX2_add, w.before args s = true) (hown : s.vm.findClass RX2 = some m.cls) (hG : gK dC dI k A s) (hA : ∀ q : Nat, s.heap.size ≤ q → A q) (n_t n_rows : Nat) (v_size : Int32) (r_rows : Nat → Int32) (x1 : Int32) (x2 : Int32) (x3 : Int32) (x4 : Int32) (o_r : Int32) (o_v_size : (Int32)) (o_r_rows : (Nat → Int32)) (RET : ∀ (pc : Nat) (H : Heap) (locs : List Loc) (ls : Array Slot) (v : Int32) (q_v_size : Int32) (q_r_rows : Nat → Int32), decode cX2_add pc = .ok (.ireturn, 1) → some (v, q_v_size, q_r_rows) = some (o_r, o_v_size, o_r_rows) → narrow .boolean (.int v) = .int v → va_P (dC, dI) vwCl (wd_696fb4 k n_t n_rows q_v_size q_r_rows) H → va_D A (wd_696fb4 k n_t n_rows q_v_size q_r_rows) → va_S A s.heap H locs → W p l e rm_X2_add s m args below meth c H locs 0 0 Q (F0 m pc ls [.int v])) (H : Heap) (locs : List Loc) (ls : Array Slot) (hl : lv_has ls 6 [(0, .ref n_t), (1, .int x1), (2, .int x2), (3, .int x3), (4, .int x4)]) (hP : va_P (dC, dI) vwCl (wd_696fb4 k n_t n_rows v_size r_rows) H) (hD : va_D A (wd_696fb4 k n_t n_rows v_size r_rows)) (hS : va_S A s.heap H locs) (hm : f_X2_add x1 x2 x3 x4 v_size r_rows = some (o_r, o_v_size, o_r_rows)) : W p l e rm_X2_add s m args below meth c H locs 0 0 Q (F0 m 0 ls []) := by
  have hinX2 : ∀ w ∈ u_ws RX2 TX2 2, w ∈ wsX2_add := by decide +kernel
  have k0 := hts (.fieldLink RX2 15 "CaveLegs$Sightings" "size" "I") (by decide +kernel)
  have k1 := hts (.fieldLink RX2 11 "CaveLegs$Sightings" "rows" "[I") (by decide +kernel)
  unfold f_X2_add at hm
  refine lv_aload_n hx hb dX2_add_0 rfl (lv_at hl 0 rfl) ?_
  refine va_get (D := (dC, dI)) (ci := 2) (v := .int v_size) (C := RX2) (T := TX2) (N := 2) hx hb hts hinX2 hown hG.1 hP 0 rfl rfl 1 (by decide) k0 (fun _ h9 => h9) rfl dX2_add_1 ?_
  refine lv_iconst (v := (4 : Int32)) hx hb dX2_add_4 (by decide) ?_
  refine lv_imul hx hb dX2_add_5 ?_
  refine lv_topi (fun t1 et1 => ?_)
  replace hm := (nmd_eq et1).trans hm
  refine lv_istore (lv' := [(5, .int t1), (0, .ref n_t), (1, .int x1), (2, .int x2), (3, .int x3), (4, .int x4)]) hx hb dX2_add_6 hl (by decide) rfl (fun ls hl => ?_)
  refine lv_iload hx hb dX2_add_8 (lv_at hl 0 rfl) ?_
  refine lv_if_lt (tgt := 25) hx hb dX2_add_10 (by decide) (fun c2 => ?_) (fun c2 => ?_)
  · replace hm := ifp c2 hm
    refine lv_iconst (v := (0 : Int32)) hx hb dX2_add_25 (by decide) ?_
    exact RET _ _ _ _ _ _ _ dX2_add_26 hm (by decide +kernel) hP hD hS
  · replace hm := ifn c2 hm
    refine lv_iload hx hb dX2_add_13 (lv_at hl 0 rfl) ?_
    refine lv_iconst (v := (4 : Int32)) hx hb dX2_add_15 (by decide) ?_
    refine lv_iadd hx hb dX2_add_16 ?_
    refine lv_aload_n hx hb dX2_add_17 rfl (lv_at hl 1 rfl) ?_
    refine va_get (D := (dC, dI)) (ci := 2) (v := .ref n_rows) (C := RX2) (T := TX2) (N := 2) hx hb hts hinX2 hown hG.1 hP 0 rfl rfl 0 (by decide) k1 (fun _ h9 => h9) rfl dX2_add_18 ?_
    refine va_alen (v := (24 : Int32)) hx hb hG.1 hP 1 0 rfl rfl rfl dX2_add_21 ?_
    refine lv_icmp_le (tgt := 27) hx hb dX2_add_22 (by decide) (fun c3 => ?_) (fun c3 => ?_)
    · replace hm := ifp c3 hm
      refine lv_aload_n hx hb dX2_add_27 rfl (lv_at hl 1 rfl) ?_
      refine va_get (D := (dC, dI)) (ci := 2) (v := .ref n_rows) (C := RX2) (T := TX2) (N := 2) hx hb hts hinX2 hown hG.1 hP 0 rfl rfl 0 (by decide) k1 (fun _ h9 => h9) rfl dX2_add_28 ?_
      refine lv_iload hx hb dX2_add_31 (lv_at hl 0 rfl) ?_
      refine lv_iload_n hx hb dX2_add_33 rfl (lv_at hl 2 rfl) ?_
      obtain ⟨hi4, hm⟩ := chk_some hm
      refine va_iast hx hb hG.1 hP hD hS 1 0 rfl rfl hi4 dX2_add_34 (fun H locs hP hD hS => ?_)
      replace hP : va_P (dC, dI) vwCl (wd_696fb4 k n_t n_rows v_size (upd r_rows (Int32.toNatClampNeg t1) x1)) H := hP
      replace hD : va_D A (wd_696fb4 k n_t n_rows v_size (upd r_rows (Int32.toNatClampNeg t1) x1)) := hD
      refine lv_aload_n hx hb dX2_add_35 rfl (lv_at hl 1 rfl) ?_
      refine va_get (D := (dC, dI)) (ci := 2) (v := .ref n_rows) (C := RX2) (T := TX2) (N := 2) hx hb hts hinX2 hown hG.1 hP 0 rfl rfl 0 (by decide) k1 (fun _ h9 => h9) rfl dX2_add_36 ?_
      refine lv_iload hx hb dX2_add_39 (lv_at hl 0 rfl) ?_
      refine lv_iconst (v := (1 : Int32)) hx hb dX2_add_41 (by decide) ?_
      refine lv_iadd hx hb dX2_add_42 ?_
      refine lv_iload_n hx hb dX2_add_43 rfl (lv_at hl 3 rfl) ?_
      obtain ⟨hi5, hm⟩ := chk_some hm
      refine va_iast hx hb hG.1 hP hD hS 1 0 rfl rfl hi5 dX2_add_44 (fun H locs hP hD hS => ?_)
      replace hP : va_P (dC, dI) vwCl (wd_696fb4 k n_t n_rows v_size (upd (upd r_rows (Int32.toNatClampNeg t1) x1) (Int32.toNatClampNeg (t1 + (1 : Int32))) x2)) H := hP
      replace hD : va_D A (wd_696fb4 k n_t n_rows v_size (upd (upd r_rows (Int32.toNatClampNeg t1) x1) (Int32.toNatClampNeg (t1 + (1 : Int32))) x2)) := hD
      refine lv_aload_n hx hb dX2_add_45 rfl (lv_at hl 1 rfl) ?_
      refine va_get (D := (dC, dI)) (ci := 2) (v := .ref n_rows) (C := RX2) (T := TX2) (N := 2) hx hb hts hinX2 hown hG.1 hP 0 rfl rfl 0 (by decide) k1 (fun _ h9 => h9) rfl dX2_add_46 ?_
      refine lv_iload hx hb dX2_add_49 (lv_at hl 0 rfl) ?_
      refine lv_iconst (v := (2 : Int32)) hx hb dX2_add_51 (by decide) ?_
      refine lv_iadd hx hb dX2_add_52 ?_
      refine lv_iload_n hx hb dX2_add_53 rfl (lv_at hl 4 rfl) ?_
      obtain ⟨hi6, hm⟩ := chk_some hm
      refine va_iast hx hb hG.1 hP hD hS 1 0 rfl rfl hi6 dX2_add_54 (fun H locs hP hD hS => ?_)
      replace hP : va_P (dC, dI) vwCl (wd_696fb4 k n_t n_rows v_size (upd (upd (upd r_rows (Int32.toNatClampNeg t1) x1) (Int32.toNatClampNeg (t1 + (1 : Int32))) x2) (Int32.toNatClampNeg (t1 + (2 : Int32))) x3)) H := hP
      replace hD : va_D A (wd_696fb4 k n_t n_rows v_size (upd (upd (upd r_rows (Int32.toNatClampNeg t1) x1) (Int32.toNatClampNeg (t1 + (1 : Int32))) x2) (Int32.toNatClampNeg (t1 + (2 : Int32))) x3)) := hD
      refine lv_aload_n hx hb dX2_add_55 rfl (lv_at hl 1 rfl) ?_
      refine va_get (D := (dC, dI)) (ci := 2) (v := .ref n_rows) (C := RX2) (T := TX2) (N := 2) hx hb hts hinX2 hown hG.1 hP 0 rfl rfl 0 (by decide) k1 (fun _ h9 => h9) rfl dX2_add_56 ?_
      refine lv_iload hx hb dX2_add_59 (lv_at hl 0 rfl) ?_
      refine lv_iconst (v := (3 : Int32)) hx hb dX2_add_61 (by decide) ?_
      refine lv_iadd hx hb dX2_add_62 ?_
      refine lv_iload hx hb dX2_add_63 (lv_at hl 5 rfl) ?_
      obtain ⟨hi7, hm⟩ := chk_some hm
      refine va_iast hx hb hG.1 hP hD hS 1 0 rfl rfl hi7 dX2_add_65 (fun H locs hP hD hS => ?_)
      replace hP : va_P (dC, dI) vwCl (wd_696fb4 k n_t n_rows v_size (upd (upd (upd (upd r_rows (Int32.toNatClampNeg t1) x1) (Int32.toNatClampNeg (t1 + (1 : Int32))) x2) (Int32.toNatClampNeg (t1 + (2 : Int32))) x3) (Int32.toNatClampNeg (t1 + (3 : Int32))) x4)) H := hP
      replace hD : va_D A (wd_696fb4 k n_t n_rows v_size (upd (upd (upd (upd r_rows (Int32.toNatClampNeg t1) x1) (Int32.toNatClampNeg (t1 + (1 : Int32))) x2) (Int32.toNatClampNeg (t1 + (2 : Int32))) x3) (Int32.toNatClampNeg (t1 + (3 : Int32))) x4)) := hD
      refine lv_aload_n hx hb dX2_add_66 rfl (lv_at hl 1 rfl) ?_
      refine lv_dup hx hb dX2_add_67 rfl ?_
      refine va_get (D := (dC, dI)) (ci := 2) (v := .int v_size) (C := RX2) (T := TX2) (N := 2) hx hb hts hinX2 hown hG.1 hP 0 rfl rfl 1 (by decide) k0 (fun _ h9 => h9) rfl dX2_add_68 ?_
      refine lv_iconst (v := (1 : Int32)) hx hb dX2_add_71 (by decide) ?_
      refine lv_iadd hx hb dX2_add_72 ?_
      refine lv_topi (fun t8 et8 => ?_)
      replace hm := (nmd_eq et8).trans hm
      refine va_put (D := (dC, dI)) (ci := 2) (v := .int t8) (ty := .int) (C := RX2) (T := TX2) (N := 2) hx hb hts hinX2 tyX2 tyX2_ok nmX2 hown hG.1 hP hD hS 0 rfl rfl 1 (by decide) k0 (fun _ h9 => h9) rfl (by decide +kernel) rfl rfl (Nat.le_of_ble_eq_true rfl) dX2_add_73 (fun H locs hP hD hS => ?_)
      replace hP : va_P (dC, dI) vwCl (wd_696fb4 k n_t n_rows t8 (upd (upd (upd (upd r_rows (Int32.toNatClampNeg t1) x1) (Int32.toNatClampNeg (t1 + (1 : Int32))) x2) (Int32.toNatClampNeg (t1 + (2 : Int32))) x3) (Int32.toNatClampNeg (t1 + (3 : Int32))) x4)) H := hP
      replace hD : va_D A (wd_696fb4 k n_t n_rows t8 (upd (upd (upd (upd r_rows (Int32.toNatClampNeg t1) x1) (Int32.toNatClampNeg (t1 + (1 : Int32))) x2) (Int32.toNatClampNeg (t1 + (2 : Int32))) x3) (Int32.toNatClampNeg (t1 + (3 : Int32))) x4)) := hD
      refine lv_iconst (v := (1 : Int32)) hx hb dX2_add_76 (by decide) ?_
      exact RET _ _ _ _ _ _ _ dX2_add_77 hm (by decide +kernel) hP hD hS
    · replace hm := ifn c3 hm
      refine lv_iconst (v := (0 : Int32)) hx hb dX2_add_25 (by decide) ?_
      exact RET _ _ _ _ _ _ _ dX2_add_26 hm (by decide +kernel) hP hD hS
set_option maxRecDepth 100000 in
theorem m_X2_add (l : Launch) (dC : Nat → ClassId) (dI : Nat → Nat → Nat) (k : Nat → ClassId) (sz : Nat) (n_t n_rows : Nat) (v_size : Int32) (r_rows : Nat → Int32) (x1 : Int32) (x2 : Int32) (x3 : Int32) (x4 : Int32) {o_r : Int32} {o_v_size : (Int32)} {o_r_rows : (Nat → Int32)} (hm : f_X2_add x1 x2 x3 x4 v_size r_rows = some (o_r, o_v_size, o_r_rows)) : Met l yX2_add wsX2_add rm_X2_add (gPre dC dI k [.ref n_t, .int x1, .int x2, .int x3, .int x4] sz (wd_696fb4 k n_t n_rows v_size r_rows)) (gQI dC dI (va_A (wd_696fb4 k n_t n_rows v_size r_rows) sz) o_r (wd_696fb4 k n_t n_rows o_v_size o_r_rows)) 0 0 (va_A (wd_696fb4 k n_t n_rows v_size r_rows) sz) := by
  refine g_entry (cc := cX2_add) (maxL := 6) (ret := (some .boolean)) (lv := [(0, .ref n_t), (1, .int x1), (2, .int x2), (3, .int x3), (4, .int x4)]) (by decide +kernel) rfl (Nat.le_of_ble_eq_true rfl) rfl (fun p e s m below meth c ls hx hb hr hml hts hown hlk hnm hsz hG hA hP hD hS hl => ?_)
  exact k_X2_add hx hb hml hts hown hG hA n_t n_rows v_size r_rows x1 x2 x3 x4 o_r o_v_size o_r_rows (fun pc H locs ls v q_v_size q_r_rows hd ho hz hP hD hS => by cases ho; exact g_iretz hx hb hr hlk hP hD hS hz hd) s.heap [] ls hl hP hD hS hm
end
section
set_option maxHeartbeats 4000000 in
set_option maxRecDepth 100000 in
theorem k_X2_fit {p : Program} {l : Launch} {e : Env} {s : State} {m : MethodId} {args : Array Value} {below : List Frame} {meth : Method} {c : Code} {A : Nat → Prop} {Q : State → Prop} {dC : Nat → ClassId} {dI : Nat → Nat → Nat} {k : Nat → ClassId} (hx : p.tables.exec = Jvm.exec) (hb : c.code = cX2_fit) (hml : c.maxLocals = 7) (hts : ∀ w ∈ wsX2_fit, w.before args s = true) (hown : s.vm.findClass RX2 = some m.cls) (hG : gK dC dI k A s) (hA : ∀ q : Nat, s.heap.size ≤ q → A q) (F : Nat) (n_t n_p1 n_rows n_p1_rows : Nat) (v_size : Int32) (v_p1_size : Int32) (v_p1_stations : Int32) (r_rows : Nat → Int32) (r_p1_rows : Nat → Int32) (x2 : Int32) (o_r : Int32) (RET : ∀ (pc : Nat) (H : Heap) (locs : List Loc) (ls : Array Slot) (v : Int32), decode cX2_fit pc = .ok (.ireturn, 1) → some v = some o_r → narrow .boolean (.int v) = .int v → va_P (dC, dI) vwCl (wd_39d6c1 k n_t n_p1 n_rows n_p1_rows v_size v_p1_size v_p1_stations r_rows r_p1_rows) H → va_D A (wd_39d6c1 k n_t n_p1 n_rows n_p1_rows v_size v_p1_size v_p1_stations r_rows r_p1_rows) → va_S A s.heap H locs → W p l e rm_X2_fit s m args below meth c H locs 0 0 Q (F0 m pc ls [.int v])) (H : Heap) (locs : List Loc) (ls : Array Slot) (hl : lv_has ls 7 [(0, .ref n_t), (1, .ref n_p1), (2, .int x2)]) (hP : va_P (dC, dI) vwCl (wd_39d6c1 k n_t n_p1 n_rows n_p1_rows v_size v_p1_size v_p1_stations r_rows r_p1_rows) H) (hD : va_D A (wd_39d6c1 k n_t n_p1 n_rows n_p1_rows v_size v_p1_size v_p1_stations r_rows r_p1_rows)) (hS : va_S A s.heap H locs) (hm : f_X2_fit F x2 v_size r_rows v_p1_size v_p1_stations r_p1_rows = some o_r) : W p l e rm_X2_fit s m args below meth c H locs 0 0 Q (F0 m 0 ls []) := by
  have hinX2 : ∀ w ∈ u_ws RX2 TX2 2, w ∈ wsX2_fit := by decide +kernel
  have k0 := hts (.fieldLink RX2 11 "CaveLegs$Sightings" "rows" "[I") (by decide +kernel)
  have k1 := hts (.fieldLink RX2 15 "CaveLegs$Sightings" "size" "I") (by decide +kernel)
  have L_2 : ∀ (n2 : Nat) (x2 : Int32) (x3 : Int32) (H : Heap) (locs : List Loc) (ls : Array Slot), lv_has ls 7 [(0, .ref n_t), (1, .ref n_p1), (2, .int x2), (3, .int x3)] → va_P (dC, dI) vwCl (wd_39d6c1 k n_t n_p1 n_rows n_p1_rows v_size v_p1_size v_p1_stations r_rows r_p1_rows) H → va_D A (wd_39d6c1 k n_t n_p1 n_rows n_p1_rows v_size v_p1_size v_p1_stations r_rows r_p1_rows) → va_S A s.heap H locs → f_X2_fit_L2 F v_size r_rows v_p1_size v_p1_stations r_p1_rows n2 x2 x3 = some o_r → W p l e rm_X2_fit s m args below meth c H locs 0 0 Q (F0 m 2 ls []) := by
    intro n2
    induction n2 with
    | zero =>
      intro x2 x3 H locs ls hl hP hD hS hm
      exact non_some hm
    | succ n2 ih2 =>
      have J_110 : ∀ (x2 : Int32) (x3 : Int32) (H : Heap) (locs : List Loc) (ls : Array Slot), lv_has ls 7 [(0, .ref n_t), (1, .ref n_p1), (2, .int x2), (3, .int x3)] → va_P (dC, dI) vwCl (wd_39d6c1 k n_t n_p1 n_rows n_p1_rows v_size v_p1_size v_p1_stations r_rows r_p1_rows) H → va_D A (wd_39d6c1 k n_t n_p1 n_rows n_p1_rows v_size v_p1_size v_p1_stations r_rows r_p1_rows) → va_S A s.heap H locs → f_X2_fit_J110 F v_size r_rows v_p1_size v_p1_stations r_p1_rows (f_X2_fit_L2 F v_size r_rows v_p1_size v_p1_stations r_p1_rows n2) x2 x3 = some o_r → W p l e rm_X2_fit s m args below meth c H locs 0 0 Q (F0 m 110 ls []) := by
        intro x2 x3 H locs ls hl hP hD hS hm
        unfold f_X2_fit_J110 at hm
        obtain ⟨t1, et1⟩ : ∃ y : Int32, y = x3 + (4 : Int32) := ⟨_, rfl⟩
        replace hm := (nmd_eq et1).trans hm
        refine lv_iinc (v := t1) (lv' := [(3, .int t1), (0, .ref n_t), (1, .ref n_p1), (2, .int x2)]) hx hb dX2_fit_110 hl (k := 3) rfl (by rw [et1]; rfl) (by decide) rfl (fun ls hl => ?_)
        refine lv_goto (tgt := 2) hx hb dX2_fit_113 (by decide) ?_
        exact ih2 _ _ _ _ _ (lv_sub hl [1, 2, 3, 0] rfl) hP hD hS hm
      have J_105 : ∀ (x2 : Int32) (x3 : Int32) (s0 : Int32) (s1 : Int32) (H : Heap) (locs : List Loc) (ls : Array Slot), lv_has ls 7 [(0, .ref n_t), (1, .ref n_p1), (2, .int x2), (3, .int x3)] → va_P (dC, dI) vwCl (wd_39d6c1 k n_t n_p1 n_rows n_p1_rows v_size v_p1_size v_p1_stations r_rows r_p1_rows) H → va_D A (wd_39d6c1 k n_t n_p1 n_rows n_p1_rows v_size v_p1_size v_p1_stations r_rows r_p1_rows) → va_S A s.heap H locs → f_X2_fit_J105 F v_size r_rows v_p1_size v_p1_stations r_p1_rows (f_X2_fit_L2 F v_size r_rows v_p1_size v_p1_stations r_p1_rows n2) x2 x3 s0 s1 = some o_r → W p l e rm_X2_fit s m args below meth c H locs 0 0 Q (F0 m 105 ls [.int s1, .int s0]) := by
        intro x2 x3 s0 s1 H locs ls hl hP hD hS hm
        unfold f_X2_fit_J105 at hm
        refine lv_icmp_eq (tgt := 110) hx hb dX2_fit_105 (by decide) (fun c2 => ?_) (fun c2 => ?_)
        · replace hm := ifp c2 hm
          exact J_110 _ _ _ _ _ (lv_sub hl [0, 1, 2, 3] rfl) hP hD hS hm
        · replace hm := ifn c2 hm
          refine lv_iconst (v := (0 : Int32)) hx hb dX2_fit_108 (by decide) ?_
          exact RET _ _ _ _ _ dX2_fit_109 hm (by decide +kernel) hP hD hS
      have J_84 : ∀ (x2 : Int32) (x3 : Int32) (s0 : Int32) (H : Heap) (locs : List Loc) (ls : Array Slot), lv_has ls 7 [(0, .ref n_t), (1, .ref n_p1), (2, .int x2), (3, .int x3)] → va_P (dC, dI) vwCl (wd_39d6c1 k n_t n_p1 n_rows n_p1_rows v_size v_p1_size v_p1_stations r_rows r_p1_rows) H → va_D A (wd_39d6c1 k n_t n_p1 n_rows n_p1_rows v_size v_p1_size v_p1_stations r_rows r_p1_rows) → va_S A s.heap H locs → f_X2_fit_J84 F v_size r_rows v_p1_size v_p1_stations r_p1_rows (f_X2_fit_L2 F v_size r_rows v_p1_size v_p1_stations r_p1_rows n2) x2 x3 s0 = some o_r → W p l e rm_X2_fit s m args below meth c H locs 0 0 Q (F0 m 84 ls [.int s0]) := by
        intro x2 x3 s0 H locs ls hl hP hD hS hm
        unfold f_X2_fit_J84 at hm
        refine lv_istore (lv' := [(6, .int s0), (0, .ref n_t), (1, .ref n_p1), (2, .int x2), (3, .int x3)]) hx hb dX2_fit_84 hl (by decide) rfl (fun ls hl => ?_)
        refine lv_iload hx hb dX2_fit_86 (lv_at hl 0 rfl) ?_
        refine lv_aload_n hx hb dX2_fit_88 rfl (lv_at hl 1 rfl) ?_
        refine va_get (D := (dC, dI)) (ci := 2) (v := .ref n_rows) (C := RX2) (T := TX2) (N := 2) hx hb hts hinX2 hown hG.1 hP 0 rfl rfl 0 (by decide) k0 (fun _ h9 => h9) rfl dX2_fit_89 ?_
        refine lv_iload_n hx hb dX2_fit_92 rfl (lv_at hl 4 rfl) ?_
        refine lv_iconst (v := (3 : Int32)) hx hb dX2_fit_93 (by decide) ?_
        refine lv_iadd hx hb dX2_fit_94 ?_
        obtain ⟨hi3, hm⟩ := chk_some hm
        refine va_iald hx hb hG.1 hP 1 0 rfl rfl hi3 dX2_fit_95 ?_
        refine lv_iconst (v := (1 : Int32)) hx hb dX2_fit_96 (by decide) ?_
        refine lv_icmp_ne (tgt := 104) hx hb dX2_fit_97 (by decide) (fun c4 => ?_) (fun c4 => ?_)
        · replace hm := ifn c4 hm
          refine lv_iconst (v := (0 : Int32)) hx hb dX2_fit_104 (by decide) ?_
          exact J_105 _ _ _ _ _ _ _ (lv_sub hl [1, 2, 3, 4] rfl) hP hD hS hm
        · replace hm := ifp c4 hm
          refine lv_iconst (v := (1 : Int32)) hx hb dX2_fit_100 (by decide) ?_
          refine lv_goto (tgt := 105) hx hb dX2_fit_101 (by decide) ?_
          exact J_105 _ _ _ _ _ _ _ (lv_sub hl [1, 2, 3, 4] rfl) hP hD hS hm
      intro x2 x3 H locs ls hl hP hD hS hm
      replace hm : f_X2_fit_B2 F v_size r_rows v_p1_size v_p1_stations r_p1_rows (f_X2_fit_L2 F v_size r_rows v_p1_size v_p1_stations r_p1_rows n2) x2 x3 = some o_r := hm
      unfold f_X2_fit_B2 at hm
      refine lv_iload_n hx hb dX2_fit_2 rfl (lv_at hl 3 rfl) ?_
      refine lv_aload_n hx hb dX2_fit_3 rfl (lv_at hl 0 rfl) ?_
      refine va_get (D := (dC, dI)) (ci := 2) (v := .int v_size) (C := RX2) (T := TX2) (N := 2) hx hb hts hinX2 hown hG.1 hP 0 rfl rfl 1 (by decide) k1 (fun _ h9 => h9) rfl dX2_fit_4 ?_
      refine lv_iconst (v := (4 : Int32)) hx hb dX2_fit_7 (by decide) ?_
      refine lv_imul hx hb dX2_fit_8 ?_
      refine lv_icmp_ge (tgt := 116) hx hb dX2_fit_9 (by decide) (fun c5 => ?_) (fun c5 => ?_)
      · replace hm := ifp c5 hm
        refine lv_iconst (v := (1 : Int32)) hx hb dX2_fit_116 (by decide) ?_
        exact RET _ _ _ _ _ dX2_fit_117 hm (by decide +kernel) hP hD hS
      · replace hm := ifn c5 hm
        refine lv_iload_n hx hb dX2_fit_12 rfl (lv_at hl 3 rfl) ?_
        refine lv_iconst (v := (4 : Int32)) hx hb dX2_fit_13 (by decide) ?_
        refine lv_iadd hx hb dX2_fit_14 ?_
        refine lv_aload_n hx hb dX2_fit_15 rfl (lv_at hl 0 rfl) ?_
        refine va_get (D := (dC, dI)) (ci := 2) (v := .ref n_rows) (C := RX2) (T := TX2) (N := 2) hx hb hts hinX2 hown hG.1 hP 0 rfl rfl 0 (by decide) k0 (fun _ h9 => h9) rfl dX2_fit_16 ?_
        refine va_alen (v := (24 : Int32)) hx hb hG.1 hP 1 0 rfl rfl rfl dX2_fit_19 ?_
        refine lv_icmp_gt (tgt := 116) hx hb dX2_fit_20 (by decide) (fun c6 => ?_) (fun c6 => ?_)
        · replace hm := ifp c6 hm
          refine lv_iconst (v := (1 : Int32)) hx hb dX2_fit_116 (by decide) ?_
          exact RET _ _ _ _ _ dX2_fit_117 hm (by decide +kernel) hP hD hS
        · replace hm := ifn c6 hm
          refine lv_aload_n hx hb dX2_fit_23 rfl (lv_at hl 0 rfl) ?_
          refine va_get (D := (dC, dI)) (ci := 2) (v := .ref n_rows) (C := RX2) (T := TX2) (N := 2) hx hb hts hinX2 hown hG.1 hP 0 rfl rfl 0 (by decide) k0 (fun _ h9 => h9) rfl dX2_fit_24 ?_
          refine lv_iload_n hx hb dX2_fit_27 rfl (lv_at hl 3 rfl) ?_
          obtain ⟨hi7, hm⟩ := chk_some hm
          refine va_iald hx hb hG.1 hP 1 0 rfl rfl hi7 dX2_fit_28 ?_
          refine lv_topi (fun t8 et8 => ?_)
          replace hm := (nmd_eq et8).trans hm
          refine lv_istore (lv' := [(4, .int t8), (0, .ref n_t), (1, .ref n_p1), (2, .int x2), (3, .int x3)]) hx hb dX2_fit_29 hl (by decide) rfl (fun ls hl => ?_)
          refine lv_aload_n hx hb dX2_fit_31 rfl (lv_at hl 1 rfl) ?_
          refine va_get (D := (dC, dI)) (ci := 2) (v := .ref n_rows) (C := RX2) (T := TX2) (N := 2) hx hb hts hinX2 hown hG.1 hP 0 rfl rfl 0 (by decide) k0 (fun _ h9 => h9) rfl dX2_fit_32 ?_
          refine lv_iload_n hx hb dX2_fit_35 rfl (lv_at hl 4 rfl) ?_
          refine lv_iconst (v := (1 : Int32)) hx hb dX2_fit_36 (by decide) ?_
          refine lv_iadd hx hb dX2_fit_37 ?_
          obtain ⟨hi9, hm⟩ := chk_some hm
          refine va_iald hx hb hG.1 hP 1 0 rfl rfl hi9 dX2_fit_38 ?_
          refine lv_topi (fun t10 et10 => ?_)
          replace hm := (nmd_eq et10).trans hm
          refine lv_istore (lv' := [(5, .int t10), (4, .int t8), (0, .ref n_t), (1, .ref n_p1), (2, .int x2), (3, .int x3)]) hx hb dX2_fit_39 hl (by decide) rfl (fun ls hl => ?_)
          refine lv_aload_n hx hb dX2_fit_41 rfl (lv_at hl 3 rfl) ?_
          refine lv_iload hx hb dX2_fit_42 (lv_at hl 1 rfl) ?_
          obtain ⟨r11, e12, hm⟩ := bnd1_some hm
          refine g_calli (w2 := (wd_39d6c1 k n_t n_p1 n_rows n_p1_rows v_size v_p1_size v_p1_stations r_rows r_p1_rows)) (va_runV (As := [.int t8]) (rest := []) ⟨hx, hb, hml, hown, hts⟩ (m_X0_hasStation l dC dI k H.size n_p1 n_p1_rows v_p1_size v_p1_stations t8 e12) (cwV 1 hts gX2_fit_X0_hasStation rfl rfl rfl (by decide +kernel) ⟨Nat.le_of_ble_eq_true rfl, Nat.le_of_ble_eq_true rfl⟩) (g_preV hG hP hD hS hA [2] rfl (by decide) (ci := 0) (q0 := 2) rfl rfl) rfl rfl hl.1 rfl (lv_room (Nat.le_of_ble_eq_true rfl)) dX2_fit_44 ⟨Nat.le_of_ble_eq_true rfl, Nat.le_of_ble_eq_true rfl⟩) hP hD hS hA [2] [0, 1, 3] [0, 1, 3, 2] rfl rfl (by decide) (by decide) rfl (by decide) (fun H locs hP hD hS => ?_)
          refine lv_if_eq (tgt := 110) hx hb dX2_fit_47 (by decide) (fun c13 => ?_) (fun c13 => ?_)
          · replace hm := ifp c13 hm
            exact J_110 _ _ _ _ _ (lv_sub hl [2, 3, 4, 5] rfl) hP hD hS hm
          · replace hm := ifn c13 hm
            refine lv_aload_n hx hb dX2_fit_50 rfl (lv_at hl 3 rfl) ?_
            refine lv_iload hx hb dX2_fit_51 (lv_at hl 0 rfl) ?_
            obtain ⟨r14, e15, hm⟩ := bnd1_some hm
            refine g_calli (w2 := (wd_39d6c1 k n_t n_p1 n_rows n_p1_rows v_size v_p1_size v_p1_stations r_rows r_p1_rows)) (va_runV (As := [.int t10]) (rest := []) ⟨hx, hb, hml, hown, hts⟩ (m_X0_hasStation l dC dI k H.size n_p1 n_p1_rows v_p1_size v_p1_stations t10 e15) (cwV 1 hts gX2_fit_X0_hasStation rfl rfl rfl (by decide +kernel) ⟨Nat.le_of_ble_eq_true rfl, Nat.le_of_ble_eq_true rfl⟩) (g_preV hG hP hD hS hA [2] rfl (by decide) (ci := 0) (q0 := 2) rfl rfl) rfl rfl hl.1 rfl (lv_room (Nat.le_of_ble_eq_true rfl)) dX2_fit_53 ⟨Nat.le_of_ble_eq_true rfl, Nat.le_of_ble_eq_true rfl⟩) hP hD hS hA [2] [0, 1, 3] [0, 1, 3, 2] rfl rfl (by decide) (by decide) rfl (by decide) (fun H locs hP hD hS => ?_)
            refine lv_if_eq (tgt := 110) hx hb dX2_fit_56 (by decide) (fun c16 => ?_) (fun c16 => ?_)
            · replace hm := ifp c16 hm
              exact J_110 _ _ _ _ _ (lv_sub hl [2, 3, 4, 5] rfl) hP hD hS hm
            · replace hm := ifn c16 hm
              refine lv_aload_n hx hb dX2_fit_59 rfl (lv_at hl 3 rfl) ?_
              refine lv_iload_n hx hb dX2_fit_60 rfl (lv_at hl 4 rfl) ?_
              refine lv_iload hx hb dX2_fit_61 (lv_at hl 1 rfl) ?_
              refine lv_iload hx hb dX2_fit_63 (lv_at hl 0 rfl) ?_
              obtain ⟨r17, e18, hm⟩ := bnd1_some hm
              refine g_calli (w2 := (wd_39d6c1 k n_t n_p1 n_rows n_p1_rows v_size v_p1_size v_p1_stations r_rows r_p1_rows)) (va_runV (As := [.int x2, .int t8, .int t10]) (rest := []) ⟨hx, hb, hml, hown, hts⟩ (m_X0_greatestWidth l dC dI k F H.size n_p1 n_p1_rows v_p1_size v_p1_stations r_p1_rows x2 t8 t10 e18) (cwV 3 hts gX2_fit_X0_greatestWidth rfl rfl rfl (by decide +kernel) ⟨Nat.le_of_ble_eq_true rfl, Nat.le_of_ble_eq_true rfl⟩) (g_preV hG hP hD hS hA [2, 3] rfl (by decide) (ci := 0) (q0 := 2) rfl rfl) rfl rfl hl.1 rfl (lv_room (Nat.le_of_ble_eq_true rfl)) dX2_fit_65 ⟨Nat.le_of_ble_eq_true rfl, Nat.le_of_ble_eq_true rfl⟩) hP hD hS hA [2, 3] [0, 1] [0, 1, 2, 3] rfl rfl (by decide) (by decide) rfl (by decide) (fun H locs hP hD hS => ?_)
              refine lv_aload_n hx hb dX2_fit_68 rfl (lv_at hl 2 rfl) ?_
              refine va_get (D := (dC, dI)) (ci := 2) (v := .ref n_rows) (C := RX2) (T := TX2) (N := 2) hx hb hts hinX2 hown hG.1 hP 0 rfl rfl 0 (by decide) k0 (fun _ h9 => h9) rfl dX2_fit_69 ?_
              refine lv_iload_n hx hb dX2_fit_72 rfl (lv_at hl 5 rfl) ?_
              refine lv_iconst (v := (2 : Int32)) hx hb dX2_fit_73 (by decide) ?_
              refine lv_iadd hx hb dX2_fit_74 ?_
              obtain ⟨hi19, hm⟩ := chk_some hm
              refine va_iald hx hb hG.1 hP 1 0 rfl rfl hi19 dX2_fit_75 ?_
              refine lv_icmp_ne (tgt := 83) hx hb dX2_fit_76 (by decide) (fun c20 => ?_) (fun c20 => ?_)
              · replace hm := ifn c20 hm
                refine lv_iconst (v := (0 : Int32)) hx hb dX2_fit_83 (by decide) ?_
                exact J_84 _ _ _ _ _ _ (lv_sub hl [2, 3, 4, 5] rfl) hP hD hS hm
              · replace hm := ifp c20 hm
                refine lv_iconst (v := (1 : Int32)) hx hb dX2_fit_79 (by decide) ?_
                refine lv_goto (tgt := 84) hx hb dX2_fit_80 (by decide) ?_
                exact J_84 _ _ _ _ _ _ (lv_sub hl [2, 3, 4, 5] rfl) hP hD hS hm
  unfold f_X2_fit at hm
  refine lv_iconst (v := (0 : Int32)) hx hb dX2_fit_0 (by decide) ?_
  refine lv_istore_n (lv' := [(3, .int (0 : Int32)), (0, .ref n_t), (1, .ref n_p1), (2, .int x2)]) hx hb dX2_fit_1 rfl hl (by decide) rfl (fun ls hl => ?_)
  exact L_2 F _ _ _ _ _ (lv_sub hl [1, 2, 3, 0] rfl) hP hD hS hm
set_option maxRecDepth 100000 in
theorem m_X2_fit (l : Launch) (dC : Nat → ClassId) (dI : Nat → Nat → Nat) (k : Nat → ClassId) (F : Nat) (sz : Nat) (n_t n_p1 n_rows n_p1_rows : Nat) (v_size : Int32) (v_p1_size : Int32) (v_p1_stations : Int32) (r_rows : Nat → Int32) (r_p1_rows : Nat → Int32) (x2 : Int32) {o_r : Int32} (hm : f_X2_fit F x2 v_size r_rows v_p1_size v_p1_stations r_p1_rows = some o_r) : Met l yX2_fit wsX2_fit rm_X2_fit (gPre dC dI k [.ref n_t, .ref n_p1, .int x2] sz (wd_39d6c1 k n_t n_p1 n_rows n_p1_rows v_size v_p1_size v_p1_stations r_rows r_p1_rows)) (gQI dC dI (va_A (wd_39d6c1 k n_t n_p1 n_rows n_p1_rows v_size v_p1_size v_p1_stations r_rows r_p1_rows) sz) o_r (wd_39d6c1 k n_t n_p1 n_rows n_p1_rows v_size v_p1_size v_p1_stations r_rows r_p1_rows)) 0 0 (va_A (wd_39d6c1 k n_t n_p1 n_rows n_p1_rows v_size v_p1_size v_p1_stations r_rows r_p1_rows) sz) := by
  refine g_entry (cc := cX2_fit) (maxL := 7) (ret := (some .boolean)) (lv := [(0, .ref n_t), (1, .ref n_p1), (2, .int x2)]) (by decide +kernel) rfl (Nat.le_of_ble_eq_true rfl) rfl (fun p e s m below meth c ls hx hb hr hml hts hown hlk hnm hsz hG hA hP hD hS hl => ?_)
  exact k_X2_fit hx hb hml hts hown hG hA F n_t n_p1 n_rows n_p1_rows v_size v_p1_size v_p1_stations r_rows r_p1_rows x2 o_r (fun pc H locs ls v hd ho hz hP hD hS => by cases ho; exact g_iretz hx hb hr hlk hP hD hS hz hd) s.heap [] ls hl hP hD hS hm
end
section
set_option maxHeartbeats 4000000 in
set_option maxRecDepth 100000 in
theorem k_X3_place {p : Program} {l : Launch} {e : Env} {s : State} {m : MethodId} {args : Array Value} {below : List Frame} {meth : Method} {c : Code} {A : Nat → Prop} {Q : State → Prop} {dC : Nat → ClassId} {dI : Nat → Nat → Nat} {k : Nat → ClassId} (hx : p.tables.exec = Jvm.exec) (hb : c.code = cX3_place) (hml : c.maxLocals = 4) (hts : ∀ w ∈ wsX3_place, w.before args s = true) (hown : s.vm.findClass RX3 = some m.cls) (hG : gK dC dI k A s) (hA : ∀ q : Nat, s.heap.size ≤ q → A q) (n_t n_places n_equations : Nat) (v_divisor : Int64) (v_squareSum : Int64) (r_places : Nat → Int32) (x1 : Int32) (x2 : Int32) (o_r : Int32) (RET : ∀ (pc : Nat) (H : Heap) (locs : List Loc) (ls : Array Slot) (v : Int32), decode cX3_place pc = .ok (.ireturn, 1) → some v = some o_r → va_P (dC, dI) vwCl (wd_fa34b6 k n_t n_places n_equations v_divisor v_squareSum r_places) H → va_D A (wd_fa34b6 k n_t n_places n_equations v_divisor v_squareSum r_places) → va_S A s.heap H locs → W p l e rm_X3_place s m args below meth c H locs 0 0 Q (F0 m pc ls [.int v])) (H : Heap) (locs : List Loc) (ls : Array Slot) (hl : lv_has ls 4 [(0, .ref n_t), (1, .int x1), (2, .int x2)]) (hP : va_P (dC, dI) vwCl (wd_fa34b6 k n_t n_places n_equations v_divisor v_squareSum r_places) H) (hD : va_D A (wd_fa34b6 k n_t n_places n_equations v_divisor v_squareSum r_places)) (hS : va_S A s.heap H locs) (hm : f_X3_place x1 x2 r_places = some o_r) : W p l e rm_X3_place s m args below meth c H locs 0 0 Q (F0 m 0 ls []) := by
  have hinX3 : ∀ w ∈ u_ws RX3 TX3 4, w ∈ wsX3_place := by decide +kernel
  have k0 := hts (.fieldLink RX3 11 "CaveLegs$Survey" "places" "[I") (by decide +kernel)
  unfold f_X3_place at hm
  refine lv_iload_n hx hb dX3_place_0 rfl (lv_at hl 1 rfl) ?_
  refine lv_iconst (v := (3 : Int32)) hx hb dX3_place_1 (by decide) ?_
  refine lv_imul hx hb dX3_place_2 ?_
  refine lv_iload_n hx hb dX3_place_3 rfl (lv_at hl 2 rfl) ?_
  refine lv_iadd hx hb dX3_place_4 ?_
  refine lv_topi (fun t1 et1 => ?_)
  replace hm := (nmd_eq et1).trans hm
  refine lv_istore_n (lv' := [(3, .int t1), (0, .ref n_t), (1, .int x1), (2, .int x2)]) hx hb dX3_place_5 rfl hl (by decide) rfl (fun ls hl => ?_)
  refine lv_iload_n hx hb dX3_place_6 rfl (lv_at hl 0 rfl) ?_
  refine lv_if_lt (tgt := 28) hx hb dX3_place_7 (by decide) (fun c2 => ?_) (fun c2 => ?_)
  · replace hm := ifp c2 hm
    refine lv_iconst (v := (0 : Int32)) hx hb dX3_place_28 (by decide) ?_
    exact RET _ _ _ _ _ dX3_place_29 hm hP hD hS
  · replace hm := ifn c2 hm
    refine lv_iload_n hx hb dX3_place_10 rfl (lv_at hl 0 rfl) ?_
    refine lv_aload_n hx hb dX3_place_11 rfl (lv_at hl 1 rfl) ?_
    refine va_get (D := (dC, dI)) (ci := 3) (v := .ref n_places) (C := RX3) (T := TX3) (N := 4) hx hb hts hinX3 hown hG.1 hP 0 rfl rfl 0 (by decide) k0 (fun _ h9 => h9) rfl dX3_place_12 ?_
    refine va_alen (v := (18 : Int32)) hx hb hG.1 hP 1 0 rfl rfl rfl dX3_place_15 ?_
    refine lv_icmp_ge (tgt := 28) hx hb dX3_place_16 (by decide) (fun c3 => ?_) (fun c3 => ?_)
    · replace hm := ifp c3 hm
      refine lv_iconst (v := (0 : Int32)) hx hb dX3_place_28 (by decide) ?_
      exact RET _ _ _ _ _ dX3_place_29 hm hP hD hS
    · replace hm := ifn c3 hm
      refine lv_aload_n hx hb dX3_place_19 rfl (lv_at hl 1 rfl) ?_
      refine va_get (D := (dC, dI)) (ci := 3) (v := .ref n_places) (C := RX3) (T := TX3) (N := 4) hx hb hts hinX3 hown hG.1 hP 0 rfl rfl 0 (by decide) k0 (fun _ h9 => h9) rfl dX3_place_20 ?_
      refine lv_iload_n hx hb dX3_place_23 rfl (lv_at hl 0 rfl) ?_
      obtain ⟨hi4, hm⟩ := chk_some hm
      refine va_iald hx hb hG.1 hP 1 0 rfl rfl hi4 dX3_place_24 ?_
      refine lv_goto (tgt := 29) hx hb dX3_place_25 (by decide) ?_
      exact RET _ _ _ _ _ dX3_place_29 hm hP hD hS
set_option maxRecDepth 100000 in
theorem m_X3_place (l : Launch) (dC : Nat → ClassId) (dI : Nat → Nat → Nat) (k : Nat → ClassId) (sz : Nat) (n_t n_places n_equations : Nat) (v_divisor : Int64) (v_squareSum : Int64) (r_places : Nat → Int32) (x1 : Int32) (x2 : Int32) {o_r : Int32} (hm : f_X3_place x1 x2 r_places = some o_r) : Met l yX3_place wsX3_place rm_X3_place (gPre dC dI k [.ref n_t, .int x1, .int x2] sz (wd_fa34b6 k n_t n_places n_equations v_divisor v_squareSum r_places)) (gQI dC dI (va_A (wd_fa34b6 k n_t n_places n_equations v_divisor v_squareSum r_places) sz) o_r (wd_fa34b6 k n_t n_places n_equations v_divisor v_squareSum r_places)) 0 0 (va_A (wd_fa34b6 k n_t n_places n_equations v_divisor v_squareSum r_places) sz) := by
  refine g_entry (cc := cX3_place) (maxL := 4) (ret := (some .int)) (lv := [(0, .ref n_t), (1, .int x1), (2, .int x2)]) (by decide +kernel) rfl (Nat.le_of_ble_eq_true rfl) rfl (fun p e s m below meth c ls hx hb hr hml hts hown hlk hnm hsz hG hA hP hD hS hl => ?_)
  exact k_X3_place hx hb hml hts hown hG hA n_t n_places n_equations v_divisor v_squareSum r_places x1 x2 o_r (fun pc H locs ls v hd ho hP hD hS => by cases ho; exact g_ireti hx hb hr hlk hP hD hS hd) s.heap [] ls hl hP hD hS hm
end
section
set_option maxHeartbeats 4000000 in
set_option maxRecDepth 100000 in
theorem k_X3_setPlace {p : Program} {l : Launch} {e : Env} {s : State} {m : MethodId} {args : Array Value} {below : List Frame} {meth : Method} {c : Code} {A : Nat → Prop} {Q : State → Prop} {dC : Nat → ClassId} {dI : Nat → Nat → Nat} {k : Nat → ClassId} (hx : p.tables.exec = Jvm.exec) (hb : c.code = cX3_setPlace) (hml : c.maxLocals = 5) (hts : ∀ w ∈ wsX3_setPlace, w.before args s = true) (hown : s.vm.findClass RX3 = some m.cls) (hG : gK dC dI k A s) (hA : ∀ q : Nat, s.heap.size ≤ q → A q) (n_t n_places n_equations : Nat) (v_divisor : Int64) (v_squareSum : Int64) (r_places : Nat → Int32) (x1 : Int32) (x2 : Int32) (x3 : Int32) (o_r_places : (Nat → Int32)) (RET : ∀ (pc : Nat) (H : Heap) (locs : List Loc) (ls : Array Slot) (q_r_places : Nat → Int32), decode cX3_setPlace pc = .ok (.return_, 1) → some q_r_places = some o_r_places → va_P (dC, dI) vwCl (wd_fa34b6 k n_t n_places n_equations v_divisor v_squareSum q_r_places) H → va_D A (wd_fa34b6 k n_t n_places n_equations v_divisor v_squareSum q_r_places) → va_S A s.heap H locs → W p l e rm_X3_setPlace s m args below meth c H locs 0 0 Q (F0 m pc ls [])) (H : Heap) (locs : List Loc) (ls : Array Slot) (hl : lv_has ls 5 [(0, .ref n_t), (1, .int x1), (2, .int x2), (3, .int x3)]) (hP : va_P (dC, dI) vwCl (wd_fa34b6 k n_t n_places n_equations v_divisor v_squareSum r_places) H) (hD : va_D A (wd_fa34b6 k n_t n_places n_equations v_divisor v_squareSum r_places)) (hS : va_S A s.heap H locs) (hm : f_X3_setPlace x1 x2 x3 r_places = some o_r_places) : W p l e rm_X3_setPlace s m args below meth c H locs 0 0 Q (F0 m 0 ls []) := by
  have hinX3 : ∀ w ∈ u_ws RX3 TX3 4, w ∈ wsX3_setPlace := by decide +kernel
  have k0 := hts (.fieldLink RX3 11 "CaveLegs$Survey" "places" "[I") (by decide +kernel)
  unfold f_X3_setPlace at hm
  refine lv_iload_n hx hb dX3_setPlace_0 rfl (lv_at hl 1 rfl) ?_
  refine lv_iconst (v := (3 : Int32)) hx hb dX3_setPlace_1 (by decide) ?_
  refine lv_imul hx hb dX3_setPlace_2 ?_
  refine lv_iload_n hx hb dX3_setPlace_3 rfl (lv_at hl 2 rfl) ?_
  refine lv_iadd hx hb dX3_setPlace_4 ?_
  refine lv_topi (fun t1 et1 => ?_)
  replace hm := (nmd_eq et1).trans hm
  refine lv_istore (lv' := [(4, .int t1), (0, .ref n_t), (1, .int x1), (2, .int x2), (3, .int x3)]) hx hb dX3_setPlace_5 hl (by decide) rfl (fun ls hl => ?_)
  refine lv_iload hx hb dX3_setPlace_7 (lv_at hl 0 rfl) ?_
  refine lv_if_lt (tgt := 30) hx hb dX3_setPlace_9 (by decide) (fun c2 => ?_) (fun c2 => ?_)
  · replace hm := ifp c2 hm
    exact RET _ _ _ _ _ dX3_setPlace_30 hm hP hD hS
  · replace hm := ifn c2 hm
    refine lv_iload hx hb dX3_setPlace_12 (lv_at hl 0 rfl) ?_
    refine lv_aload_n hx hb dX3_setPlace_14 rfl (lv_at hl 1 rfl) ?_
    refine va_get (D := (dC, dI)) (ci := 3) (v := .ref n_places) (C := RX3) (T := TX3) (N := 4) hx hb hts hinX3 hown hG.1 hP 0 rfl rfl 0 (by decide) k0 (fun _ h9 => h9) rfl dX3_setPlace_15 ?_
    refine va_alen (v := (18 : Int32)) hx hb hG.1 hP 1 0 rfl rfl rfl dX3_setPlace_18 ?_
    refine lv_icmp_ge (tgt := 30) hx hb dX3_setPlace_19 (by decide) (fun c3 => ?_) (fun c3 => ?_)
    · replace hm := ifp c3 hm
      exact RET _ _ _ _ _ dX3_setPlace_30 hm hP hD hS
    · replace hm := ifn c3 hm
      refine lv_aload_n hx hb dX3_setPlace_22 rfl (lv_at hl 1 rfl) ?_
      refine va_get (D := (dC, dI)) (ci := 3) (v := .ref n_places) (C := RX3) (T := TX3) (N := 4) hx hb hts hinX3 hown hG.1 hP 0 rfl rfl 0 (by decide) k0 (fun _ h9 => h9) rfl dX3_setPlace_23 ?_
      refine lv_iload hx hb dX3_setPlace_26 (lv_at hl 0 rfl) ?_
      refine lv_iload_n hx hb dX3_setPlace_28 rfl (lv_at hl 4 rfl) ?_
      obtain ⟨hi4, hm⟩ := chk_some hm
      refine va_iast hx hb hG.1 hP hD hS 1 0 rfl rfl hi4 dX3_setPlace_29 (fun H locs hP hD hS => ?_)
      replace hP : va_P (dC, dI) vwCl (wd_fa34b6 k n_t n_places n_equations v_divisor v_squareSum (upd r_places (Int32.toNatClampNeg t1) x3)) H := hP
      replace hD : va_D A (wd_fa34b6 k n_t n_places n_equations v_divisor v_squareSum (upd r_places (Int32.toNatClampNeg t1) x3)) := hD
      exact RET _ _ _ _ _ dX3_setPlace_30 hm hP hD hS
set_option maxRecDepth 100000 in
theorem m_X3_setPlace (l : Launch) (dC : Nat → ClassId) (dI : Nat → Nat → Nat) (k : Nat → ClassId) (sz : Nat) (n_t n_places n_equations : Nat) (v_divisor : Int64) (v_squareSum : Int64) (r_places : Nat → Int32) (x1 : Int32) (x2 : Int32) (x3 : Int32) {o_r_places : (Nat → Int32)} (hm : f_X3_setPlace x1 x2 x3 r_places = some o_r_places) : Met l yX3_setPlace wsX3_setPlace rm_X3_setPlace (gPre dC dI k [.ref n_t, .int x1, .int x2, .int x3] sz (wd_fa34b6 k n_t n_places n_equations v_divisor v_squareSum r_places)) (gQV dC dI (va_A (wd_fa34b6 k n_t n_places n_equations v_divisor v_squareSum r_places) sz) (wd_fa34b6 k n_t n_places n_equations v_divisor v_squareSum o_r_places)) 0 0 (va_A (wd_fa34b6 k n_t n_places n_equations v_divisor v_squareSum r_places) sz) := by
  refine g_entry (cc := cX3_setPlace) (maxL := 5) (ret := none) (lv := [(0, .ref n_t), (1, .int x1), (2, .int x2), (3, .int x3)]) (by decide +kernel) rfl (Nat.le_of_ble_eq_true rfl) rfl (fun p e s m below meth c ls hx hb hr hml hts hown hlk hnm hsz hG hA hP hD hS hl => ?_)
  exact k_X3_setPlace hx hb hml hts hown hG hA n_t n_places n_equations v_divisor v_squareSum r_places x1 x2 x3 o_r_places (fun pc H locs ls q_r_places hd ho hP hD hS => by cases ho; exact g_vret hx hb hr hlk hP hD hS hd) s.heap [] ls hl hP hD hS hm
end
section
set_option maxHeartbeats 4000000 in
set_option maxRecDepth 100000 in
theorem k_X3_plot {p : Program} {l : Launch} {e : Env} {s : State} {m : MethodId} {args : Array Value} {below : List Frame} {meth : Method} {c : Code} {A : Nat → Prop} {Q : State → Prop} {dC : Nat → ClassId} {dI : Nat → Nat → Nat} {k : Nat → ClassId} (hx : p.tables.exec = Jvm.exec) (hb : c.code = cX3_plot) (hml : c.maxLocals = 10) (hts : ∀ w ∈ wsX3_plot, w.before args s = true) (hown : s.vm.findClass RX3 = some m.cls) (hG : gK dC dI k A s) (hA : ∀ q : Nat, s.heap.size ≤ q → A q) (F : Nat) (n_t n_p1 n_places n_equations n_p1_rows : Nat) (v_divisor : Int64) (v_squareSum : Int64) (v_p1_size : Int32) (v_p1_stations : Int32) (r_places : Nat → Int32) (r_p1_rows : Nat → Int32) (o_r_places : (Nat → Int32)) (RET : ∀ (pc : Nat) (H : Heap) (locs : List Loc) (ls : Array Slot) (q_r_places : Nat → Int32), decode cX3_plot pc = .ok (.return_, 1) → some q_r_places = some o_r_places → va_P (dC, dI) vwCl (wd_140f23 k n_t n_p1 n_places n_equations n_p1_rows v_divisor v_squareSum v_p1_size v_p1_stations q_r_places r_p1_rows) H → va_D A (wd_140f23 k n_t n_p1 n_places n_equations n_p1_rows v_divisor v_squareSum v_p1_size v_p1_stations q_r_places r_p1_rows) → va_S A s.heap H locs → W p l e rm_X3_plot s m args below meth c H locs 0 0 Q (F0 m pc ls [])) (H : Heap) (locs : List Loc) (ls : Array Slot) (hl : lv_has ls 10 [(0, .ref n_t), (1, .ref n_p1)]) (hP : va_P (dC, dI) vwCl (wd_140f23 k n_t n_p1 n_places n_equations n_p1_rows v_divisor v_squareSum v_p1_size v_p1_stations r_places r_p1_rows) H) (hD : va_D A (wd_140f23 k n_t n_p1 n_places n_equations n_p1_rows v_divisor v_squareSum v_p1_size v_p1_stations r_places r_p1_rows)) (hS : va_S A s.heap H locs) (hm : f_X3_plot F r_places v_p1_size r_p1_rows = some o_r_places) : W p l e rm_X3_plot s m args below meth c H locs 0 0 Q (F0 m 0 ls []) := by
  have hinX3 : ∀ w ∈ u_ws RX3 TX3 4, w ∈ wsX3_plot := by decide +kernel
  have k0 := hts (.initialized RX5) (by decide +kernel)
  have k1 := hts (.static yX5_holds) (by decide +kernel)
  have k2 := hts (.fieldLink RX3 11 "CaveLegs$Survey" "places" "[I") (by decide +kernel)
  have L_12 : ∀ (n12 : Nat) (r_places : Nat → Int32) (x2 : Int32) (x3 : Int32) (H : Heap) (locs : List Loc) (ls : Array Slot), lv_has ls 10 [(0, .ref n_t), (1, .ref n_p1), (2, .int x2), (3, .int x3)] → va_P (dC, dI) vwCl (wd_140f23 k n_t n_p1 n_places n_equations n_p1_rows v_divisor v_squareSum v_p1_size v_p1_stations r_places r_p1_rows) H → va_D A (wd_140f23 k n_t n_p1 n_places n_equations n_p1_rows v_divisor v_squareSum v_p1_size v_p1_stations r_places r_p1_rows) → va_S A s.heap H locs → f_X3_plot_L12 F v_p1_size r_p1_rows n12 r_places x2 x3 = some o_r_places → W p l e rm_X3_plot s m args below meth c H locs 0 0 Q (F0 m 12 ls []) := by
    intro n12
    induction n12 with
    | zero =>
      intro r_places x2 x3 H locs ls hl hP hD hS hm
      exact non_some hm
    | succ n12 ih12 =>
      have L_62 : ∀ (n62 : Nat) (r_places : Nat → Int32) (x2 : Int32) (x3 : Int32) (x4 : Int32) (x5 : Int32) (x6 : Int32) (x7 : Int32) (x8 : Int32) (H : Heap) (locs : List Loc) (ls : Array Slot), lv_has ls 10 [(0, .ref n_t), (1, .ref n_p1), (2, .int x2), (3, .int x3), (4, .int x4), (5, .int x5), (6, .int x6), (7, .int x7), (8, .int x8)] → va_P (dC, dI) vwCl (wd_140f23 k n_t n_p1 n_places n_equations n_p1_rows v_divisor v_squareSum v_p1_size v_p1_stations r_places r_p1_rows) H → va_D A (wd_140f23 k n_t n_p1 n_places n_equations n_p1_rows v_divisor v_squareSum v_p1_size v_p1_stations r_places r_p1_rows) → va_S A s.heap H locs → f_X3_plot_L62 F v_p1_size r_p1_rows (f_X3_plot_L12 F v_p1_size r_p1_rows n12) n62 r_places x2 x3 x4 x5 x6 x7 x8 = some o_r_places → W p l e rm_X3_plot s m args below meth c H locs 0 0 Q (F0 m 62 ls []) := by
        intro n62
        induction n62 with
        | zero =>
          intro r_places x2 x3 x4 x5 x6 x7 x8 H locs ls hl hP hD hS hm
          exact non_some hm
        | succ n62 ih62 =>
          have J_124 : ∀ (r_places : Nat → Int32) (x2 : Int32) (x3 : Int32) (x4 : Int32) (x5 : Int32) (x6 : Int32) (x7 : Int32) (x8 : Int32) (H : Heap) (locs : List Loc) (ls : Array Slot), lv_has ls 10 [(0, .ref n_t), (1, .ref n_p1), (2, .int x2), (3, .int x3), (4, .int x4), (5, .int x5), (6, .int x6), (7, .int x7), (8, .int x8)] → va_P (dC, dI) vwCl (wd_140f23 k n_t n_p1 n_places n_equations n_p1_rows v_divisor v_squareSum v_p1_size v_p1_stations r_places r_p1_rows) H → va_D A (wd_140f23 k n_t n_p1 n_places n_equations n_p1_rows v_divisor v_squareSum v_p1_size v_p1_stations r_places r_p1_rows) → va_S A s.heap H locs → f_X3_plot_J124 F v_p1_size r_p1_rows (f_X3_plot_L12 F v_p1_size r_p1_rows n12) (f_X3_plot_L62 F v_p1_size r_p1_rows (f_X3_plot_L12 F v_p1_size r_p1_rows n12) n62) r_places x2 x3 x4 x5 x6 x7 x8 = some o_r_places → W p l e rm_X3_plot s m args below meth c H locs 0 0 Q (F0 m 124 ls []) := by
            intro r_places x2 x3 x4 x5 x6 x7 x8 H locs ls hl hP hD hS hm
            unfold f_X3_plot_J124 at hm
            obtain ⟨t1, et1⟩ : ∃ y : Int32, y = x8 + (1 : Int32) := ⟨_, rfl⟩
            replace hm := (nmd_eq et1).trans hm
            refine lv_iinc (v := t1) (lv' := [(8, .int t1), (0, .ref n_t), (1, .ref n_p1), (2, .int x2), (3, .int x3), (4, .int x4), (5, .int x5), (6, .int x6), (7, .int x7)]) hx hb dX3_plot_124 hl (k := 8) rfl (by rw [et1]; rfl) (by decide) rfl (fun ls hl => ?_)
            refine lv_goto (tgt := 62) hx hb dX3_plot_127 (by decide) ?_
            exact ih62 _ _ _ _ _ _ _ _ _ _ _ (lv_sub hl [1, 2, 3, 4, 5, 6, 7, 8, 0] rfl) hP hD hS hm
          intro r_places x2 x3 x4 x5 x6 x7 x8 H locs ls hl hP hD hS hm
          replace hm : f_X3_plot_B62 F v_p1_size r_p1_rows (f_X3_plot_L12 F v_p1_size r_p1_rows n12) (f_X3_plot_L62 F v_p1_size r_p1_rows (f_X3_plot_L12 F v_p1_size r_p1_rows n12) n62) r_places x2 x3 x4 x5 x6 x7 x8 = some o_r_places := hm
          unfold f_X3_plot_B62 at hm
          refine lv_iload hx hb dX3_plot_62 (lv_at hl 8 rfl) ?_
          refine lv_iconst (v := (3 : Int32)) hx hb dX3_plot_64 (by decide) ?_
          refine lv_icmp_ge (tgt := 130) hx hb dX3_plot_65 (by decide) (fun c2 => ?_) (fun c2 => ?_)
          · replace hm := ifp c2 hm
            refine lv_iload_n hx hb dX3_plot_130 rfl (lv_at hl 2 rfl) ?_
            refine lv_iconst (v := (1 : Int32)) hx hb dX3_plot_131 (by decide) ?_
            refine lv_iload hx hb dX3_plot_132 (lv_at hl 5 rfl) ?_
            refine g_ishl hx hb dX3_plot_134 ?_
            refine lv_iconst (v := (1 : Int32)) hx hb dX3_plot_135 (by decide) ?_
            refine lv_iload hx hb dX3_plot_136 (lv_at hl 6 rfl) ?_
            refine g_ishl hx hb dX3_plot_138 ?_
            refine lv_ior hx hb dX3_plot_139 ?_
            refine lv_ior hx hb dX3_plot_140 ?_
            refine lv_topi (fun t3 et3 => ?_)
            replace hm := (nmd_eq et3).trans hm
            refine lv_istore_n (lv' := [(2, .int t3), (0, .ref n_t), (1, .ref n_p1), (3, .int x3), (4, .int x4), (5, .int x5), (6, .int x6), (7, .int x7), (8, .int x8)]) hx hb dX3_plot_141 rfl hl (by decide) rfl (fun ls hl => ?_)
            obtain ⟨t4, et4⟩ : ∃ y : Int32, y = x3 + (1 : Int32) := ⟨_, rfl⟩
            replace hm := (nmd_eq et4).trans hm
            refine lv_iinc (v := t4) (lv' := [(3, .int t4), (2, .int t3), (0, .ref n_t), (1, .ref n_p1), (4, .int x4), (5, .int x5), (6, .int x6), (7, .int x7), (8, .int x8)]) hx hb dX3_plot_142 hl (k := 3) rfl (by rw [et4]; rfl) (by decide) rfl (fun ls hl => ?_)
            refine lv_goto (tgt := 12) hx hb dX3_plot_145 (by decide) ?_
            exact ih12 _ _ _ _ _ _ (lv_sub hl [2, 3, 1, 0] rfl) hP hD hS hm
          · replace hm := ifn c2 hm
            refine lv_aload_n hx hb dX3_plot_68 rfl (lv_at hl 1 rfl) ?_
            refine lv_iload hx hb dX3_plot_69 (lv_at hl 4 rfl) ?_
            refine lv_iload hx hb dX3_plot_71 (lv_at hl 8 rfl) ?_
            obtain ⟨r5, e6, hm⟩ := bnd1_some hm
            refine g_calli (w2 := (wd_140f23 k n_t n_p1 n_places n_equations n_p1_rows v_divisor v_squareSum v_p1_size v_p1_stations r_places r_p1_rows)) (va_runV (As := [.int x4, .int x8]) (rest := []) ⟨hx, hb, hml, hown, hts⟩ (m_X0_vector l dC dI k H.size n_p1 n_p1_rows v_p1_size v_p1_stations r_p1_rows x4 x8 e6) (cwV 2 hts gX3_plot_X0_vector rfl rfl rfl (by decide +kernel) ⟨Nat.le_of_ble_eq_true rfl, Nat.le_of_ble_eq_true rfl⟩) (g_preV hG hP hD hS hA [2, 3] rfl (by decide) (ci := 0) (q0 := 2) rfl rfl) rfl rfl hl.1 rfl (lv_room (Nat.le_of_ble_eq_true rfl)) dX3_plot_73 ⟨Nat.le_of_ble_eq_true rfl, Nat.le_of_ble_eq_true rfl⟩) hP hD hS hA [2, 3] [0, 1] [0, 1, 2, 3] rfl rfl (by decide) (by decide) rfl (by decide) (fun H locs hP hD hS => ?_)
            refine lv_istore (lv' := [(9, .int r5), (0, .ref n_t), (1, .ref n_p1), (2, .int x2), (3, .int x3), (4, .int x4), (5, .int x5), (6, .int x6), (7, .int x7), (8, .int x8)]) hx hb dX3_plot_76 hl (by decide) rfl (fun ls hl => ?_)
            refine lv_iload hx hb dX3_plot_78 (lv_at hl 8 rfl) ?_
            refine lv_if_eq (tgt := 105) hx hb dX3_plot_80 (by decide) (fun c7 => ?_) (fun c7 => ?_)
            · replace hm := ifp c7 hm
              refine lv_aload_n hx hb dX3_plot_105 rfl (lv_at hl 1 rfl) ?_
              refine lv_iload hx hb dX3_plot_106 (lv_at hl 6 rfl) ?_
              refine lv_iload hx hb dX3_plot_108 (lv_at hl 9 rfl) ?_
              refine lv_aload_n hx hb dX3_plot_110 rfl (lv_at hl 1 rfl) ?_
              refine lv_iload hx hb dX3_plot_111 (lv_at hl 7 rfl) ?_
              refine lv_iload hx hb dX3_plot_113 (lv_at hl 9 rfl) ?_
              obtain ⟨r8, e9, hm⟩ := bnd1_some hm
              refine g_calli (w2 := (wd_140f23 k n_t n_p1 n_places n_equations n_p1_rows v_divisor v_squareSum v_p1_size v_p1_stations r_places r_p1_rows)) (va_runV (As := [.int x6, .int x8]) (rest := [.int x8, .int x5, .ref n_t]) ⟨hx, hb, hml, hown, hts⟩ (m_X3_place l dC dI k H.size n_t n_places n_equations v_divisor v_squareSum r_places x6 x8 e9) (cwV 2 hts gX3_plot_X3_place rfl rfl rfl (by decide +kernel) ⟨Nat.le_of_ble_eq_true rfl, Nat.le_of_ble_eq_true rfl⟩) (g_preV hG hP hD hS hA [0, 1] rfl (by decide) (ci := 3) (q0 := 0) rfl rfl) rfl rfl hl.1 rfl (lv_room (Nat.le_of_ble_eq_true rfl)) dX3_plot_115 ⟨Nat.le_of_ble_eq_true rfl, Nat.le_of_ble_eq_true rfl⟩) hP hD hS hA [0, 1] [2, 3] [2, 3, 0, 1] rfl rfl (by decide) (by decide) rfl (by decide) (fun H locs hP hD hS => ?_)
              refine lv_iload hx hb dX3_plot_118 (lv_at hl 0 rfl) ?_
              refine lv_isub hx hb dX3_plot_120 ?_
              obtain ⟨w10, e11, hm⟩ := bnd1_some hm
              refine g_callv (w2 := (wd_140f23 k n_t n_p1 n_places n_equations n_p1_rows v_divisor v_squareSum v_p1_size v_p1_stations w10 r_p1_rows)) (va_runV (As := [.int x5, .int x8, .int (r8 - r5)]) (rest := []) ⟨hx, hb, hml, hown, hts⟩ (m_X3_setPlace l dC dI k H.size n_t n_places n_equations v_divisor v_squareSum r_places x5 x8 (r8 - r5) e11) (cwV 3 hts gX3_plot_X3_setPlace rfl rfl rfl (by decide +kernel) ⟨Nat.le_of_ble_eq_true rfl, Nat.le_of_ble_eq_true rfl⟩) (g_preV hG hP hD hS hA [0, 1] rfl (by decide) (ci := 3) (q0 := 0) rfl rfl) rfl rfl hl.1 rfl (lv_room (Nat.le_of_ble_eq_true rfl)) dX3_plot_121 ⟨Nat.le_of_ble_eq_true rfl, Nat.le_of_ble_eq_true rfl⟩) hP hD hS hA [0, 1] [2, 3] [2, 3, 0, 1] rfl rfl (by decide) (by decide) rfl (by decide) (fun H locs hP hD hS => ?_)
              exact J_124 _ _ _ _ _ _ _ _ _ _ _ (lv_sub hl [1, 2, 3, 4, 5, 6, 7, 8, 9] rfl) hP hD hS hm
            · replace hm := ifn c7 hm
              refine lv_aload_n hx hb dX3_plot_83 rfl (lv_at hl 1 rfl) ?_
              refine lv_iload hx hb dX3_plot_84 (lv_at hl 7 rfl) ?_
              refine lv_iload hx hb dX3_plot_86 (lv_at hl 9 rfl) ?_
              refine lv_aload_n hx hb dX3_plot_88 rfl (lv_at hl 1 rfl) ?_
              refine lv_iload hx hb dX3_plot_89 (lv_at hl 6 rfl) ?_
              refine lv_iload hx hb dX3_plot_91 (lv_at hl 9 rfl) ?_
              obtain ⟨r12, e13, hm⟩ := bnd1_some hm
              refine g_calli (w2 := (wd_140f23 k n_t n_p1 n_places n_equations n_p1_rows v_divisor v_squareSum v_p1_size v_p1_stations r_places r_p1_rows)) (va_runV (As := [.int x5, .int x8]) (rest := [.int x8, .int x6, .ref n_t]) ⟨hx, hb, hml, hown, hts⟩ (m_X3_place l dC dI k H.size n_t n_places n_equations v_divisor v_squareSum r_places x5 x8 e13) (cwV 2 hts gX3_plot_X3_place rfl rfl rfl (by decide +kernel) ⟨Nat.le_of_ble_eq_true rfl, Nat.le_of_ble_eq_true rfl⟩) (g_preV hG hP hD hS hA [0, 1] rfl (by decide) (ci := 3) (q0 := 0) rfl rfl) rfl rfl hl.1 rfl (lv_room (Nat.le_of_ble_eq_true rfl)) dX3_plot_93 ⟨Nat.le_of_ble_eq_true rfl, Nat.le_of_ble_eq_true rfl⟩) hP hD hS hA [0, 1] [2, 3] [2, 3, 0, 1] rfl rfl (by decide) (by decide) rfl (by decide) (fun H locs hP hD hS => ?_)
              refine lv_iload hx hb dX3_plot_96 (lv_at hl 0 rfl) ?_
              refine lv_iadd hx hb dX3_plot_98 ?_
              obtain ⟨w14, e15, hm⟩ := bnd1_some hm
              refine g_callv (w2 := (wd_140f23 k n_t n_p1 n_places n_equations n_p1_rows v_divisor v_squareSum v_p1_size v_p1_stations w14 r_p1_rows)) (va_runV (As := [.int x6, .int x8, .int (r12 + r5)]) (rest := []) ⟨hx, hb, hml, hown, hts⟩ (m_X3_setPlace l dC dI k H.size n_t n_places n_equations v_divisor v_squareSum r_places x6 x8 (r12 + r5) e15) (cwV 3 hts gX3_plot_X3_setPlace rfl rfl rfl (by decide +kernel) ⟨Nat.le_of_ble_eq_true rfl, Nat.le_of_ble_eq_true rfl⟩) (g_preV hG hP hD hS hA [0, 1] rfl (by decide) (ci := 3) (q0 := 0) rfl rfl) rfl rfl hl.1 rfl (lv_room (Nat.le_of_ble_eq_true rfl)) dX3_plot_99 ⟨Nat.le_of_ble_eq_true rfl, Nat.le_of_ble_eq_true rfl⟩) hP hD hS hA [0, 1] [2, 3] [2, 3, 0, 1] rfl rfl (by decide) (by decide) rfl (by decide) (fun H locs hP hD hS => ?_)
              refine lv_goto (tgt := 124) hx hb dX3_plot_102 (by decide) ?_
              exact J_124 _ _ _ _ _ _ _ _ _ _ _ (lv_sub hl [1, 2, 3, 4, 5, 6, 7, 8, 9] rfl) hP hD hS hm
      intro r_places x2 x3 H locs ls hl hP hD hS hm
      replace hm : f_X3_plot_B12 F v_p1_size r_p1_rows (f_X3_plot_L12 F v_p1_size r_p1_rows n12) r_places x2 x3 = some o_r_places := hm
      unfold f_X3_plot_B12 at hm
      refine lv_iload_n hx hb dX3_plot_12 rfl (lv_at hl 3 rfl) ?_
      refine lv_bipush (v := (6 : Int32)) hx hb dX3_plot_13 (by decide) ?_
      refine lv_icmp_ge (tgt := 148) hx hb dX3_plot_15 (by decide) (fun c16 => ?_) (fun c16 => ?_)
      · replace hm := ifp c16 hm
        exact RET _ _ _ _ _ dX3_plot_148 hm hP hD hS
      · replace hm := ifn c16 hm
        refine lv_aload_n hx hb dX3_plot_18 rfl (lv_at hl 1 rfl) ?_
        refine lv_iload_n hx hb dX3_plot_19 rfl (lv_at hl 2 rfl) ?_
        obtain ⟨r17, e18, hm⟩ := bnd1_some hm
        refine g_calli (w2 := (wd_140f23 k n_t n_p1 n_places n_equations n_p1_rows v_divisor v_squareSum v_p1_size v_p1_stations r_places r_p1_rows)) (va_runV (As := [.int x2]) (rest := []) ⟨hx, hb, hml, hown, hts⟩ (m_X0_leaving l dC dI k F H.size n_p1 n_p1_rows v_p1_size v_p1_stations r_p1_rows x2 e18) (cwV 1 hts gX3_plot_X0_leaving rfl rfl rfl (by decide +kernel) ⟨Nat.le_of_ble_eq_true rfl, Nat.le_of_ble_eq_true rfl⟩) (g_preV hG hP hD hS hA [2, 3] rfl (by decide) (ci := 0) (q0 := 2) rfl rfl) rfl rfl hl.1 rfl (lv_room (Nat.le_of_ble_eq_true rfl)) dX3_plot_20 ⟨Nat.le_of_ble_eq_true rfl, Nat.le_of_ble_eq_true rfl⟩) hP hD hS hA [2, 3] [0, 1] [0, 1, 2, 3] rfl rfl (by decide) (by decide) rfl (by decide) (fun H locs hP hD hS => ?_)
        refine lv_istore (lv' := [(4, .int r17), (0, .ref n_t), (1, .ref n_p1), (2, .int x2), (3, .int x3)]) hx hb dX3_plot_23 hl (by decide) rfl (fun ls hl => ?_)
        refine lv_iload hx hb dX3_plot_25 (lv_at hl 0 rfl) ?_
        refine lv_bipush (v := (-9 : Int32)) hx hb dX3_plot_27 (by decide) ?_
        refine lv_icmp_ne (tgt := 33) hx hb dX3_plot_29 (by decide) (fun c19 => ?_) (fun c19 => ?_)
        · replace hm := ifn c19 hm
          refine lv_aload_n hx hb dX3_plot_33 rfl (lv_at hl 2 rfl) ?_
          refine lv_iload hx hb dX3_plot_34 (lv_at hl 0 rfl) ?_
          refine lv_iconst (v := (4 : Int32)) hx hb dX3_plot_36 (by decide) ?_
          obtain ⟨r20, e21, hm⟩ := bnd1_some hm
          refine g_calli (w2 := (wd_140f23 k n_t n_p1 n_places n_equations n_p1_rows v_divisor v_squareSum v_p1_size v_p1_stations r_places r_p1_rows)) (va_runV (As := [.int r17, .int (4 : Int32)]) (rest := []) ⟨hx, hb, hml, hown, hts⟩ (m_X0_get l dC dI k H.size n_p1 n_p1_rows v_p1_size v_p1_stations r_p1_rows r17 (4 : Int32) e21) (cwV 2 hts gX3_plot_X0_get rfl rfl rfl (by decide +kernel) ⟨Nat.le_of_ble_eq_true rfl, Nat.le_of_ble_eq_true rfl⟩) (g_preV hG hP hD hS hA [2, 3] rfl (by decide) (ci := 0) (q0 := 2) rfl rfl) rfl rfl hl.1 rfl (lv_room (Nat.le_of_ble_eq_true rfl)) dX3_plot_37 ⟨Nat.le_of_ble_eq_true rfl, Nat.le_of_ble_eq_true rfl⟩) hP hD hS hA [2, 3] [0, 1] [0, 1, 2, 3] rfl rfl (by decide) (by decide) rfl (by decide) (fun H locs hP hD hS => ?_)
          refine lv_istore (lv' := [(5, .int r20), (4, .int r17), (0, .ref n_t), (1, .ref n_p1), (2, .int x2), (3, .int x3)]) hx hb dX3_plot_40 hl (by decide) rfl (fun ls hl => ?_)
          refine lv_aload_n hx hb dX3_plot_42 rfl (lv_at hl 3 rfl) ?_
          refine lv_iload hx hb dX3_plot_43 (lv_at hl 1 rfl) ?_
          refine lv_iconst (v := (5 : Int32)) hx hb dX3_plot_45 (by decide) ?_
          obtain ⟨r22, e23, hm⟩ := bnd1_some hm
          refine g_calli (w2 := (wd_140f23 k n_t n_p1 n_places n_equations n_p1_rows v_divisor v_squareSum v_p1_size v_p1_stations r_places r_p1_rows)) (va_runV (As := [.int r17, .int (5 : Int32)]) (rest := []) ⟨hx, hb, hml, hown, hts⟩ (m_X0_get l dC dI k H.size n_p1 n_p1_rows v_p1_size v_p1_stations r_p1_rows r17 (5 : Int32) e23) (cwV 2 hts gX3_plot_X0_get rfl rfl rfl (by decide +kernel) ⟨Nat.le_of_ble_eq_true rfl, Nat.le_of_ble_eq_true rfl⟩) (g_preV hG hP hD hS hA [2, 3] rfl (by decide) (ci := 0) (q0 := 2) rfl rfl) rfl rfl hl.1 rfl (lv_room (Nat.le_of_ble_eq_true rfl)) dX3_plot_46 ⟨Nat.le_of_ble_eq_true rfl, Nat.le_of_ble_eq_true rfl⟩) hP hD hS hA [2, 3] [0, 1] [0, 1, 2, 3] rfl rfl (by decide) (by decide) rfl (by decide) (fun H locs hP hD hS => ?_)
          refine lv_istore (lv' := [(6, .int r22), (5, .int r20), (4, .int r17), (0, .ref n_t), (1, .ref n_p1), (2, .int x2), (3, .int x3)]) hx hb dX3_plot_49 hl (by decide) rfl (fun ls hl => ?_)
          refine lv_iload_n hx hb dX3_plot_51 rfl (lv_at hl 5 rfl) ?_
          refine lv_iload hx hb dX3_plot_52 (lv_at hl 1 rfl) ?_
          obtain ⟨r24, e25, hm⟩ := bnd1_some hm
          refine g_calli (w2 := (wd_140f23 k n_t n_p1 n_places n_equations n_p1_rows v_divisor v_squareSum v_p1_size v_p1_stations r_places r_p1_rows)) (va_runSN (As := [.int x2, .int r20]) (rest := []) ⟨hx, hb, hml, hown, hts⟩ (m_X5_holds l dC dI k H.size  x2 r20 e25) ⟨va_cnB 2 hts gX3_plot_X5_holds_n39 rfl rfl rfl hG.2.1.2.2.2.2.2.2.2.1 k0 (by decide +kernel) ⟨Nat.le_of_ble_eq_true rfl, Nat.le_of_ble_eq_true rfl⟩, k1, trivial⟩ (g_preS hG hP hD hS hA [] rfl (by decide)) rfl rfl hl.1 rfl (lv_room (Nat.le_of_ble_eq_true rfl)) dX3_plot_54 ⟨Nat.le_of_ble_eq_true rfl, Nat.le_of_ble_eq_true rfl⟩) hP hD hS hA [] [0, 1, 2, 3] [0, 1, 2, 3] rfl rfl (by decide) (by decide) rfl (by decide) (fun H locs hP hD hS => ?_)
          refine lv_istore (lv' := [(7, .int r24), (6, .int r22), (5, .int r20), (4, .int r17), (0, .ref n_t), (1, .ref n_p1), (2, .int x2), (3, .int x3)]) hx hb dX3_plot_57 hl (by decide) rfl (fun ls hl => ?_)
          refine lv_iconst (v := (0 : Int32)) hx hb dX3_plot_59 (by decide) ?_
          refine lv_istore (lv' := [(8, .int (0 : Int32)), (7, .int r24), (6, .int r22), (5, .int r20), (4, .int r17), (0, .ref n_t), (1, .ref n_p1), (2, .int x2), (3, .int x3)]) hx hb dX3_plot_60 hl (by decide) rfl (fun ls hl => ?_)
          exact L_62 F _ _ _ _ _ _ _ _ _ _ _ (lv_sub hl [5, 6, 7, 8, 4, 3, 2, 1, 0] rfl) hP hD hS hm
        · replace hm := ifp c19 hm
          exact RET _ _ _ _ _ dX3_plot_32 hm hP hD hS
  unfold f_X3_plot at hm
  refine lv_aload_n hx hb dX3_plot_0 rfl (lv_at hl 0 rfl) ?_
  refine va_get (D := (dC, dI)) (ci := 3) (v := .ref n_places) (C := RX3) (T := TX3) (N := 4) hx hb hts hinX3 hown hG.1 hP 0 rfl rfl 0 (by decide) k2 (fun _ h9 => h9) rfl dX3_plot_1 ?_
  refine lv_iconst (v := (0 : Int32)) hx hb dX3_plot_4 (by decide) ?_
  obtain ⟨w26, e27, hm⟩ := bnd1_some hm
  refine g_callv (w2 := (wd_140f23 k n_t n_p1 n_places n_equations n_p1_rows v_divisor v_squareSum v_p1_size v_p1_stations w26 r_p1_rows)) (va_runS (As := [.ref n_places, .int (0 : Int32)]) (rest := []) ⟨hx, hb, hml, hown, hts⟩ (m_J7_fill_53178 l dC dI k F H.size n_places r_places (0 : Int32) e27) (va_cwS 2 hts gX3_plot_J7_fill_53178 rfl rfl rfl (by decide +kernel) ⟨Nat.le_of_ble_eq_true rfl, Nat.le_of_ble_eq_true rfl⟩) (g_preS hG hP hD hS hA [1] rfl (by decide)) rfl rfl hl.1 rfl (lv_room (Nat.le_of_ble_eq_true rfl)) dX3_plot_5 ⟨Nat.le_of_ble_eq_true rfl, Nat.le_of_ble_eq_true rfl⟩) hP hD hS hA [1] [0, 2, 3] [0, 3, 1, 2] rfl rfl (by decide) (by decide) rfl (by decide) (fun H locs hP hD hS => ?_)
  refine lv_iconst (v := (1 : Int32)) hx hb dX3_plot_8 (by decide) ?_
  refine lv_istore_n (lv' := [(2, .int (1 : Int32)), (0, .ref n_t), (1, .ref n_p1)]) hx hb dX3_plot_9 rfl hl (by decide) rfl (fun ls hl => ?_)
  refine lv_iconst (v := (0 : Int32)) hx hb dX3_plot_10 (by decide) ?_
  refine lv_istore_n (lv' := [(3, .int (0 : Int32)), (2, .int (1 : Int32)), (0, .ref n_t), (1, .ref n_p1)]) hx hb dX3_plot_11 rfl hl (by decide) rfl (fun ls hl => ?_)
  exact L_12 F _ _ _ _ _ _ (lv_sub hl [2, 3, 1, 0] rfl) hP hD hS hm
set_option maxRecDepth 100000 in
theorem m_X3_plot (l : Launch) (dC : Nat → ClassId) (dI : Nat → Nat → Nat) (k : Nat → ClassId) (F : Nat) (sz : Nat) (n_t n_p1 n_places n_equations n_p1_rows : Nat) (v_divisor : Int64) (v_squareSum : Int64) (v_p1_size : Int32) (v_p1_stations : Int32) (r_places : Nat → Int32) (r_p1_rows : Nat → Int32) {o_r_places : (Nat → Int32)} (hm : f_X3_plot F r_places v_p1_size r_p1_rows = some o_r_places) : Met l yX3_plot wsX3_plot rm_X3_plot (gPre dC dI k [.ref n_t, .ref n_p1] sz (wd_140f23 k n_t n_p1 n_places n_equations n_p1_rows v_divisor v_squareSum v_p1_size v_p1_stations r_places r_p1_rows)) (gQV dC dI (va_A (wd_140f23 k n_t n_p1 n_places n_equations n_p1_rows v_divisor v_squareSum v_p1_size v_p1_stations r_places r_p1_rows) sz) (wd_140f23 k n_t n_p1 n_places n_equations n_p1_rows v_divisor v_squareSum v_p1_size v_p1_stations o_r_places r_p1_rows)) 0 0 (va_A (wd_140f23 k n_t n_p1 n_places n_equations n_p1_rows v_divisor v_squareSum v_p1_size v_p1_stations r_places r_p1_rows) sz) := by
  refine g_entry (cc := cX3_plot) (maxL := 10) (ret := none) (lv := [(0, .ref n_t), (1, .ref n_p1)]) (by decide +kernel) rfl (Nat.le_of_ble_eq_true rfl) rfl (fun p e s m below meth c ls hx hb hr hml hts hown hlk hnm hsz hG hA hP hD hS hl => ?_)
  exact k_X3_plot hx hb hml hts hown hG hA F n_t n_p1 n_places n_equations n_p1_rows v_divisor v_squareSum v_p1_size v_p1_stations r_places r_p1_rows o_r_places (fun pc H locs ls q_r_places hd ho hP hD hS => by cases ho; exact g_vret hx hb hr hlk hP hD hS hd) s.heap [] ls hl hP hD hS hm
end
section
set_option maxHeartbeats 4000000 in
set_option maxRecDepth 100000 in
theorem k_X3_misclosure {p : Program} {l : Launch} {e : Env} {s : State} {m : MethodId} {args : Array Value} {below : List Frame} {meth : Method} {c : Code} {A : Nat → Prop} {Q : State → Prop} {dC : Nat → ClassId} {dI : Nat → Nat → Nat} {k : Nat → ClassId} (hx : p.tables.exec = Jvm.exec) (hb : c.code = cX3_misclosure) (hml : c.maxLocals = 6) (hts : ∀ w ∈ wsX3_misclosure, w.before args s = true) (hown : s.vm.findClass RX3 = some m.cls) (hG : gK dC dI k A s) (hA : ∀ q : Nat, s.heap.size ≤ q → A q) (n_t n_p1 n_places n_equations n_p1_rows : Nat) (v_divisor : Int64) (v_squareSum : Int64) (v_p1_size : Int32) (v_p1_stations : Int32) (r_places : Nat → Int32) (r_p1_rows : Nat → Int32) (x2 : Int32) (x3 : Int32) (o_r : Int32) (RET : ∀ (pc : Nat) (H : Heap) (locs : List Loc) (ls : Array Slot) (v : Int32), decode cX3_misclosure pc = .ok (.ireturn, 1) → some v = some o_r → va_P (dC, dI) vwCl (wd_140f23 k n_t n_p1 n_places n_equations n_p1_rows v_divisor v_squareSum v_p1_size v_p1_stations r_places r_p1_rows) H → va_D A (wd_140f23 k n_t n_p1 n_places n_equations n_p1_rows v_divisor v_squareSum v_p1_size v_p1_stations r_places r_p1_rows) → va_S A s.heap H locs → W p l e rm_X3_misclosure s m args below meth c H locs 0 0 Q (F0 m pc ls [.int v])) (H : Heap) (locs : List Loc) (ls : Array Slot) (hl : lv_has ls 6 [(0, .ref n_t), (1, .ref n_p1), (2, .int x2), (3, .int x3)]) (hP : va_P (dC, dI) vwCl (wd_140f23 k n_t n_p1 n_places n_equations n_p1_rows v_divisor v_squareSum v_p1_size v_p1_stations r_places r_p1_rows) H) (hD : va_D A (wd_140f23 k n_t n_p1 n_places n_equations n_p1_rows v_divisor v_squareSum v_p1_size v_p1_stations r_places r_p1_rows)) (hS : va_S A s.heap H locs) (hm : f_X3_misclosure x2 x3 r_places r_p1_rows = some o_r) : W p l e rm_X3_misclosure s m args below meth c H locs 0 0 Q (F0 m 0 ls []) := by
  unfold f_X3_misclosure at hm
  refine lv_aload_n hx hb dX3_misclosure_0 rfl (lv_at hl 1 rfl) ?_
  refine lv_iload_n hx hb dX3_misclosure_1 rfl (lv_at hl 2 rfl) ?_
  refine lv_iconst (v := (4 : Int32)) hx hb dX3_misclosure_2 (by decide) ?_
  obtain ⟨r1, e2, hm⟩ := bnd1_some hm
  refine g_calli (w2 := (wd_140f23 k n_t n_p1 n_places n_equations n_p1_rows v_divisor v_squareSum v_p1_size v_p1_stations r_places r_p1_rows)) (va_runV (As := [.int x2, .int (4 : Int32)]) (rest := []) ⟨hx, hb, hml, hown, hts⟩ (m_X0_get l dC dI k H.size n_p1 n_p1_rows v_p1_size v_p1_stations r_p1_rows x2 (4 : Int32) e2) (cwV 2 hts gX3_misclosure_X0_get rfl rfl rfl (by decide +kernel) ⟨Nat.le_of_ble_eq_true rfl, Nat.le_of_ble_eq_true rfl⟩) (g_preV hG hP hD hS hA [2, 3] rfl (by decide) (ci := 0) (q0 := 2) rfl rfl) rfl rfl hl.1 rfl (lv_room (Nat.le_of_ble_eq_true rfl)) dX3_misclosure_3 ⟨Nat.le_of_ble_eq_true rfl, Nat.le_of_ble_eq_true rfl⟩) hP hD hS hA [2, 3] [0, 1] [0, 1, 2, 3] rfl rfl (by decide) (by decide) rfl (by decide) (fun H locs hP hD hS => ?_)
  refine lv_istore (lv' := [(4, .int r1), (0, .ref n_t), (1, .ref n_p1), (2, .int x2), (3, .int x3)]) hx hb dX3_misclosure_6 hl (by decide) rfl (fun ls hl => ?_)
  refine lv_aload_n hx hb dX3_misclosure_8 rfl (lv_at hl 2 rfl) ?_
  refine lv_iload_n hx hb dX3_misclosure_9 rfl (lv_at hl 3 rfl) ?_
  refine lv_iconst (v := (5 : Int32)) hx hb dX3_misclosure_10 (by decide) ?_
  obtain ⟨r3, e4, hm⟩ := bnd1_some hm
  refine g_calli (w2 := (wd_140f23 k n_t n_p1 n_places n_equations n_p1_rows v_divisor v_squareSum v_p1_size v_p1_stations r_places r_p1_rows)) (va_runV (As := [.int x2, .int (5 : Int32)]) (rest := []) ⟨hx, hb, hml, hown, hts⟩ (m_X0_get l dC dI k H.size n_p1 n_p1_rows v_p1_size v_p1_stations r_p1_rows x2 (5 : Int32) e4) (cwV 2 hts gX3_misclosure_X0_get rfl rfl rfl (by decide +kernel) ⟨Nat.le_of_ble_eq_true rfl, Nat.le_of_ble_eq_true rfl⟩) (g_preV hG hP hD hS hA [2, 3] rfl (by decide) (ci := 0) (q0 := 2) rfl rfl) rfl rfl hl.1 rfl (lv_room (Nat.le_of_ble_eq_true rfl)) dX3_misclosure_11 ⟨Nat.le_of_ble_eq_true rfl, Nat.le_of_ble_eq_true rfl⟩) hP hD hS hA [2, 3] [0, 1] [0, 1, 2, 3] rfl rfl (by decide) (by decide) rfl (by decide) (fun H locs hP hD hS => ?_)
  refine lv_istore (lv' := [(5, .int r3), (4, .int r1), (0, .ref n_t), (1, .ref n_p1), (2, .int x2), (3, .int x3)]) hx hb dX3_misclosure_14 hl (by decide) rfl (fun ls hl => ?_)
  refine lv_aload_n hx hb dX3_misclosure_16 rfl (lv_at hl 3 rfl) ?_
  refine lv_iload_n hx hb dX3_misclosure_17 rfl (lv_at hl 4 rfl) ?_
  refine lv_iload_n hx hb dX3_misclosure_18 rfl (lv_at hl 5 rfl) ?_
  obtain ⟨r5, e6, hm⟩ := bnd1_some hm
  refine g_calli (w2 := (wd_140f23 k n_t n_p1 n_places n_equations n_p1_rows v_divisor v_squareSum v_p1_size v_p1_stations r_places r_p1_rows)) (va_runV (As := [.int x2, .int x3]) (rest := []) ⟨hx, hb, hml, hown, hts⟩ (m_X0_vector l dC dI k H.size n_p1 n_p1_rows v_p1_size v_p1_stations r_p1_rows x2 x3 e6) (cwV 2 hts gX3_misclosure_X0_vector rfl rfl rfl (by decide +kernel) ⟨Nat.le_of_ble_eq_true rfl, Nat.le_of_ble_eq_true rfl⟩) (g_preV hG hP hD hS hA [2, 3] rfl (by decide) (ci := 0) (q0 := 2) rfl rfl) rfl rfl hl.1 rfl (lv_room (Nat.le_of_ble_eq_true rfl)) dX3_misclosure_19 ⟨Nat.le_of_ble_eq_true rfl, Nat.le_of_ble_eq_true rfl⟩) hP hD hS hA [2, 3] [0, 1] [0, 1, 2, 3] rfl rfl (by decide) (by decide) rfl (by decide) (fun H locs hP hD hS => ?_)
  refine lv_aload_n hx hb dX3_misclosure_22 rfl (lv_at hl 2 rfl) ?_
  refine lv_iload hx hb dX3_misclosure_23 (lv_at hl 0 rfl) ?_
  refine lv_iload_n hx hb dX3_misclosure_25 rfl (lv_at hl 5 rfl) ?_
  obtain ⟨r7, e8, hm⟩ := bnd1_some hm
  refine g_calli (w2 := (wd_140f23 k n_t n_p1 n_places n_equations n_p1_rows v_divisor v_squareSum v_p1_size v_p1_stations r_places r_p1_rows)) (va_runV (As := [.int r3, .int x3]) (rest := [.int r5]) ⟨hx, hb, hml, hown, hts⟩ (m_X3_place l dC dI k H.size n_t n_places n_equations v_divisor v_squareSum r_places r3 x3 e8) (cwV 2 hts gX3_misclosure_X3_place rfl rfl rfl (by decide +kernel) ⟨Nat.le_of_ble_eq_true rfl, Nat.le_of_ble_eq_true rfl⟩) (g_preV hG hP hD hS hA [0, 1] rfl (by decide) (ci := 3) (q0 := 0) rfl rfl) rfl rfl hl.1 rfl (lv_room (Nat.le_of_ble_eq_true rfl)) dX3_misclosure_26 ⟨Nat.le_of_ble_eq_true rfl, Nat.le_of_ble_eq_true rfl⟩) hP hD hS hA [0, 1] [2, 3] [2, 3, 0, 1] rfl rfl (by decide) (by decide) rfl (by decide) (fun H locs hP hD hS => ?_)
  refine lv_aload_n hx hb dX3_misclosure_29 rfl (lv_at hl 2 rfl) ?_
  refine lv_iload hx hb dX3_misclosure_30 (lv_at hl 1 rfl) ?_
  refine lv_iload_n hx hb dX3_misclosure_32 rfl (lv_at hl 5 rfl) ?_
  obtain ⟨r9, e10, hm⟩ := bnd1_some hm
  refine g_calli (w2 := (wd_140f23 k n_t n_p1 n_places n_equations n_p1_rows v_divisor v_squareSum v_p1_size v_p1_stations r_places r_p1_rows)) (va_runV (As := [.int r1, .int x3]) (rest := [.int r7, .int r5]) ⟨hx, hb, hml, hown, hts⟩ (m_X3_place l dC dI k H.size n_t n_places n_equations v_divisor v_squareSum r_places r1 x3 e10) (cwV 2 hts gX3_misclosure_X3_place rfl rfl rfl (by decide +kernel) ⟨Nat.le_of_ble_eq_true rfl, Nat.le_of_ble_eq_true rfl⟩) (g_preV hG hP hD hS hA [0, 1] rfl (by decide) (ci := 3) (q0 := 0) rfl rfl) rfl rfl hl.1 rfl (lv_room (Nat.le_of_ble_eq_true rfl)) dX3_misclosure_33 ⟨Nat.le_of_ble_eq_true rfl, Nat.le_of_ble_eq_true rfl⟩) hP hD hS hA [0, 1] [2, 3] [2, 3, 0, 1] rfl rfl (by decide) (by decide) rfl (by decide) (fun H locs hP hD hS => ?_)
  refine lv_isub hx hb dX3_misclosure_36 ?_
  refine lv_isub hx hb dX3_misclosure_37 ?_
  exact RET _ _ _ _ _ dX3_misclosure_38 hm hP hD hS
set_option maxRecDepth 100000 in
theorem m_X3_misclosure (l : Launch) (dC : Nat → ClassId) (dI : Nat → Nat → Nat) (k : Nat → ClassId) (sz : Nat) (n_t n_p1 n_places n_equations n_p1_rows : Nat) (v_divisor : Int64) (v_squareSum : Int64) (v_p1_size : Int32) (v_p1_stations : Int32) (r_places : Nat → Int32) (r_p1_rows : Nat → Int32) (x2 : Int32) (x3 : Int32) {o_r : Int32} (hm : f_X3_misclosure x2 x3 r_places r_p1_rows = some o_r) : Met l yX3_misclosure wsX3_misclosure rm_X3_misclosure (gPre dC dI k [.ref n_t, .ref n_p1, .int x2, .int x3] sz (wd_140f23 k n_t n_p1 n_places n_equations n_p1_rows v_divisor v_squareSum v_p1_size v_p1_stations r_places r_p1_rows)) (gQI dC dI (va_A (wd_140f23 k n_t n_p1 n_places n_equations n_p1_rows v_divisor v_squareSum v_p1_size v_p1_stations r_places r_p1_rows) sz) o_r (wd_140f23 k n_t n_p1 n_places n_equations n_p1_rows v_divisor v_squareSum v_p1_size v_p1_stations r_places r_p1_rows)) 0 0 (va_A (wd_140f23 k n_t n_p1 n_places n_equations n_p1_rows v_divisor v_squareSum v_p1_size v_p1_stations r_places r_p1_rows) sz) := by
  refine g_entry (cc := cX3_misclosure) (maxL := 6) (ret := (some .int)) (lv := [(0, .ref n_t), (1, .ref n_p1), (2, .int x2), (3, .int x3)]) (by decide +kernel) rfl (Nat.le_of_ble_eq_true rfl) rfl (fun p e s m below meth c ls hx hb hr hml hts hown hlk hnm hsz hG hA hP hD hS hl => ?_)
  exact k_X3_misclosure hx hb hml hts hown hG hA n_t n_p1 n_places n_equations n_p1_rows v_divisor v_squareSum v_p1_size v_p1_stations r_places r_p1_rows x2 x3 o_r (fun pc H locs ls v hd ho hP hD hS => by cases ho; exact g_ireti hx hb hr hlk hP hD hS hd) s.heap [] ls hl hP hD hS hm
end
section
set_option maxHeartbeats 4000000 in
set_option maxRecDepth 100000 in
theorem k_X3_closes {p : Program} {l : Launch} {e : Env} {s : State} {m : MethodId} {args : Array Value} {below : List Frame} {meth : Method} {c : Code} {A : Nat → Prop} {Q : State → Prop} {dC : Nat → ClassId} {dI : Nat → Nat → Nat} {k : Nat → ClassId} (hx : p.tables.exec = Jvm.exec) (hb : c.code = cX3_closes) (hml : c.maxLocals = 4) (hts : ∀ w ∈ wsX3_closes, w.before args s = true) (hown : s.vm.findClass RX3 = some m.cls) (hG : gK dC dI k A s) (hA : ∀ q : Nat, s.heap.size ≤ q → A q) (F : Nat) (n_t n_p1 n_places n_equations n_p1_rows : Nat) (v_divisor : Int64) (v_squareSum : Int64) (v_p1_size : Int32) (v_p1_stations : Int32) (r_places : Nat → Int32) (r_p1_rows : Nat → Int32) (x2 : Int32) (o_r : Int32) (o_r_places : (Nat → Int32)) (RET : ∀ (pc : Nat) (H : Heap) (locs : List Loc) (ls : Array Slot) (v : Int32) (q_r_places : Nat → Int32), decode cX3_closes pc = .ok (.ireturn, 1) → some (v, q_r_places) = some (o_r, o_r_places) → narrow .boolean (.int v) = .int v → va_P (dC, dI) vwCl (wd_140f23 k n_t n_p1 n_places n_equations n_p1_rows v_divisor v_squareSum v_p1_size v_p1_stations q_r_places r_p1_rows) H → va_D A (wd_140f23 k n_t n_p1 n_places n_equations n_p1_rows v_divisor v_squareSum v_p1_size v_p1_stations q_r_places r_p1_rows) → va_S A s.heap H locs → W p l e rm_X3_closes s m args below meth c H locs 0 0 Q (F0 m pc ls [.int v])) (H : Heap) (locs : List Loc) (ls : Array Slot) (hl : lv_has ls 4 [(0, .ref n_t), (1, .ref n_p1), (2, .int x2)]) (hP : va_P (dC, dI) vwCl (wd_140f23 k n_t n_p1 n_places n_equations n_p1_rows v_divisor v_squareSum v_p1_size v_p1_stations r_places r_p1_rows) H) (hD : va_D A (wd_140f23 k n_t n_p1 n_places n_equations n_p1_rows v_divisor v_squareSum v_p1_size v_p1_stations r_places r_p1_rows)) (hS : va_S A s.heap H locs) (hm : f_X3_closes F x2 r_places v_p1_size r_p1_rows = some (o_r, o_r_places)) : W p l e rm_X3_closes s m args below meth c H locs 0 0 Q (F0 m 0 ls []) := by
  have k0 := hts (.initialized RX5) (by decide +kernel)
  have k1 := hts (.static yX5_holds) (by decide +kernel)
  have L_24 : ∀ (n24 : Nat) (r_places : Nat → Int32) (x2 : Int32) (x3 : Int32) (H : Heap) (locs : List Loc) (ls : Array Slot), lv_has ls 4 [(0, .ref n_t), (1, .ref n_p1), (2, .int x2), (3, .int x3)] → va_P (dC, dI) vwCl (wd_140f23 k n_t n_p1 n_places n_equations n_p1_rows v_divisor v_squareSum v_p1_size v_p1_stations r_places r_p1_rows) H → va_D A (wd_140f23 k n_t n_p1 n_places n_equations n_p1_rows v_divisor v_squareSum v_p1_size v_p1_stations r_places r_p1_rows) → va_S A s.heap H locs → f_X3_closes_L24 F v_p1_size r_p1_rows n24 r_places x2 x3 = some (o_r, o_r_places) → W p l e rm_X3_closes s m args below meth c H locs 0 0 Q (F0 m 24 ls []) := by
    intro n24
    induction n24 with
    | zero =>
      intro r_places x2 x3 H locs ls hl hP hD hS hm
      exact non_some hm
    | succ n24 ih24 =>
      intro r_places x2 x3 H locs ls hl hP hD hS hm
      replace hm : f_X3_closes_B24 F v_p1_size r_p1_rows (f_X3_closes_L24 F v_p1_size r_p1_rows n24) r_places x2 x3 = some (o_r, o_r_places) := hm
      unfold f_X3_closes_B24 at hm
      refine lv_iload_n hx hb dX3_closes_24 rfl (lv_at hl 3 rfl) ?_
      refine lv_iconst (v := (3 : Int32)) hx hb dX3_closes_25 (by decide) ?_
      refine lv_icmp_ge (tgt := 47) hx hb dX3_closes_26 (by decide) (fun c1 => ?_) (fun c1 => ?_)
      · replace hm := ifp c1 hm
        refine lv_iconst (v := (1 : Int32)) hx hb dX3_closes_47 (by decide) ?_
        exact RET _ _ _ _ _ _ dX3_closes_48 hm (by decide +kernel) hP hD hS
      · replace hm := ifn c1 hm
        refine lv_aload_n hx hb dX3_closes_29 rfl (lv_at hl 0 rfl) ?_
        refine lv_aload_n hx hb dX3_closes_30 rfl (lv_at hl 1 rfl) ?_
        refine lv_iload_n hx hb dX3_closes_31 rfl (lv_at hl 2 rfl) ?_
        refine lv_iload_n hx hb dX3_closes_32 rfl (lv_at hl 3 rfl) ?_
        obtain ⟨r2, e3, hm⟩ := bnd1_some hm
        refine g_calli (w2 := (wd_140f23 k n_t n_p1 n_places n_equations n_p1_rows v_divisor v_squareSum v_p1_size v_p1_stations r_places r_p1_rows)) (va_runV (As := [.ref n_p1, .int x2, .int x3]) (rest := []) ⟨hx, hb, hml, hown, hts⟩ (m_X3_misclosure l dC dI k H.size n_t n_p1 n_places n_equations n_p1_rows v_divisor v_squareSum v_p1_size v_p1_stations r_places r_p1_rows x2 x3 e3) (cwV 3 hts gX3_closes_X3_misclosure rfl rfl rfl (by decide +kernel) ⟨Nat.le_of_ble_eq_true rfl, Nat.le_of_ble_eq_true rfl⟩) (g_preV hG hP hD hS hA [0, 1, 2, 3] rfl (by decide) (ci := 3) (q0 := 0) rfl rfl) rfl rfl hl.1 rfl (lv_room (Nat.le_of_ble_eq_true rfl)) dX3_closes_33 ⟨Nat.le_of_ble_eq_true rfl, Nat.le_of_ble_eq_true rfl⟩) hP hD hS hA [0, 1, 2, 3] [] [0, 1, 2, 3] rfl rfl (by decide) (by decide) rfl (by decide) (fun H locs hP hD hS => ?_)
        refine lv_if_eq (tgt := 41) hx hb dX3_closes_36 (by decide) (fun c4 => ?_) (fun c4 => ?_)
        · replace hm := ifp c4 hm
          obtain ⟨t5, et5⟩ : ∃ y : Int32, y = x3 + (1 : Int32) := ⟨_, rfl⟩
          replace hm := (nmd_eq et5).trans hm
          refine lv_iinc (v := t5) (lv' := [(3, .int t5), (0, .ref n_t), (1, .ref n_p1), (2, .int x2)]) hx hb dX3_closes_41 hl (k := 3) rfl (by rw [et5]; rfl) (by decide) rfl (fun ls hl => ?_)
          refine lv_goto (tgt := 24) hx hb dX3_closes_44 (by decide) ?_
          exact ih24 _ _ _ _ _ _ (lv_sub hl [1, 2, 3, 0] rfl) hP hD hS hm
        · replace hm := ifn c4 hm
          refine lv_iconst (v := (0 : Int32)) hx hb dX3_closes_39 (by decide) ?_
          exact RET _ _ _ _ _ _ dX3_closes_40 hm (by decide +kernel) hP hD hS
  unfold f_X3_closes at hm
  refine lv_aload_n hx hb dX3_closes_0 rfl (lv_at hl 1 rfl) ?_
  refine lv_aload_n hx hb dX3_closes_1 rfl (lv_at hl 1 rfl) ?_
  obtain ⟨r6, e7, hm⟩ := bnd1_some hm
  refine g_calli (w2 := (wd_140f23 k n_t n_p1 n_places n_equations n_p1_rows v_divisor v_squareSum v_p1_size v_p1_stations r_places r_p1_rows)) (va_runV (As := []) (rest := [.ref n_p1]) ⟨hx, hb, hml, hown, hts⟩ (m_X0_connected l dC dI k F H.size n_p1 n_p1_rows v_p1_size v_p1_stations r_p1_rows  e7) (cwV 0 hts gX3_closes_X0_connected rfl rfl rfl (by decide +kernel) ⟨Nat.le_of_ble_eq_true rfl, Nat.le_of_ble_eq_true rfl⟩) (g_preV hG hP hD hS hA [2, 3] rfl (by decide) (ci := 0) (q0 := 2) rfl rfl) rfl rfl hl.1 rfl (lv_room (Nat.le_of_ble_eq_true rfl)) dX3_closes_2 ⟨Nat.le_of_ble_eq_true rfl, Nat.le_of_ble_eq_true rfl⟩) hP hD hS hA [2, 3] [0, 1] [0, 1, 2, 3] rfl rfl (by decide) (by decide) rfl (by decide) (fun H locs hP hD hS => ?_)
  obtain ⟨r8, e9, hm⟩ := bnd1_some hm
  refine g_calli (w2 := (wd_140f23 k n_t n_p1 n_places n_equations n_p1_rows v_divisor v_squareSum v_p1_size v_p1_stations r_places r_p1_rows)) (va_runV (As := [.int r6]) (rest := []) ⟨hx, hb, hml, hown, hts⟩ (m_X0_touching l dC dI k F H.size n_p1 n_p1_rows v_p1_size v_p1_stations r_p1_rows r6 e9) (cwV 1 hts gX3_closes_X0_touching rfl rfl rfl (by decide +kernel) ⟨Nat.le_of_ble_eq_true rfl, Nat.le_of_ble_eq_true rfl⟩) (g_preV hG hP hD hS hA [2, 3] rfl (by decide) (ci := 0) (q0 := 2) rfl rfl) rfl rfl hl.1 rfl (lv_room (Nat.le_of_ble_eq_true rfl)) dX3_closes_5 ⟨Nat.le_of_ble_eq_true rfl, Nat.le_of_ble_eq_true rfl⟩) hP hD hS hA [2, 3] [0, 1] [0, 1, 2, 3] rfl rfl (by decide) (by decide) rfl (by decide) (fun H locs hP hD hS => ?_)
  refine lv_iload_n hx hb dX3_closes_8 rfl (lv_at hl 2 rfl) ?_
  obtain ⟨r10, e11, hm⟩ := bnd1_some hm
  refine g_calli (w2 := (wd_140f23 k n_t n_p1 n_places n_equations n_p1_rows v_divisor v_squareSum v_p1_size v_p1_stations r_places r_p1_rows)) (va_runSN (As := [.int r8, .int x2]) (rest := []) ⟨hx, hb, hml, hown, hts⟩ (m_X5_holds l dC dI k H.size  r8 x2 e11) ⟨va_cnB 2 hts gX3_closes_X5_holds_n39 rfl rfl rfl hG.2.1.2.2.2.2.2.2.2.1 k0 (by decide +kernel) ⟨Nat.le_of_ble_eq_true rfl, Nat.le_of_ble_eq_true rfl⟩, k1, trivial⟩ (g_preS hG hP hD hS hA [] rfl (by decide)) rfl rfl hl.1 rfl (lv_room (Nat.le_of_ble_eq_true rfl)) dX3_closes_9 ⟨Nat.le_of_ble_eq_true rfl, Nat.le_of_ble_eq_true rfl⟩) hP hD hS hA [] [0, 1, 2, 3] [0, 1, 2, 3] rfl rfl (by decide) (by decide) rfl (by decide) (fun H locs hP hD hS => ?_)
  refine lv_if_ne (tgt := 17) hx hb dX3_closes_12 (by decide) (fun c12 => ?_) (fun c12 => ?_)
  · replace hm := ifn c12 hm
    refine lv_aload_n hx hb dX3_closes_17 rfl (lv_at hl 0 rfl) ?_
    refine lv_aload_n hx hb dX3_closes_18 rfl (lv_at hl 1 rfl) ?_
    obtain ⟨w13, e14, hm⟩ := bnd1_some hm
    refine g_callv (w2 := (wd_140f23 k n_t n_p1 n_places n_equations n_p1_rows v_divisor v_squareSum v_p1_size v_p1_stations w13 r_p1_rows)) (va_runV (As := [.ref n_p1]) (rest := []) ⟨hx, hb, hml, hown, hts⟩ (m_X3_plot l dC dI k F H.size n_t n_p1 n_places n_equations n_p1_rows v_divisor v_squareSum v_p1_size v_p1_stations r_places r_p1_rows  e14) (cwV 1 hts gX3_closes_X3_plot rfl rfl rfl (by decide +kernel) ⟨Nat.le_of_ble_eq_true rfl, Nat.le_of_ble_eq_true rfl⟩) (g_preV hG hP hD hS hA [0, 1, 2, 3] rfl (by decide) (ci := 3) (q0 := 0) rfl rfl) rfl rfl hl.1 rfl (lv_room (Nat.le_of_ble_eq_true rfl)) dX3_closes_19 ⟨Nat.le_of_ble_eq_true rfl, Nat.le_of_ble_eq_true rfl⟩) hP hD hS hA [0, 1, 2, 3] [] [0, 1, 2, 3] rfl rfl (by decide) (by decide) rfl (by decide) (fun H locs hP hD hS => ?_)
    refine lv_iconst (v := (0 : Int32)) hx hb dX3_closes_22 (by decide) ?_
    refine lv_istore_n (lv' := [(3, .int (0 : Int32)), (0, .ref n_t), (1, .ref n_p1), (2, .int x2)]) hx hb dX3_closes_23 rfl hl (by decide) rfl (fun ls hl => ?_)
    exact L_24 F _ _ _ _ _ _ (lv_sub hl [1, 2, 3, 0] rfl) hP hD hS hm
  · replace hm := ifp c12 hm
    refine lv_iconst (v := (0 : Int32)) hx hb dX3_closes_15 (by decide) ?_
    exact RET _ _ _ _ _ _ dX3_closes_16 hm (by decide +kernel) hP hD hS
set_option maxRecDepth 100000 in
theorem m_X3_closes (l : Launch) (dC : Nat → ClassId) (dI : Nat → Nat → Nat) (k : Nat → ClassId) (F : Nat) (sz : Nat) (n_t n_p1 n_places n_equations n_p1_rows : Nat) (v_divisor : Int64) (v_squareSum : Int64) (v_p1_size : Int32) (v_p1_stations : Int32) (r_places : Nat → Int32) (r_p1_rows : Nat → Int32) (x2 : Int32) {o_r : Int32} {o_r_places : (Nat → Int32)} (hm : f_X3_closes F x2 r_places v_p1_size r_p1_rows = some (o_r, o_r_places)) : Met l yX3_closes wsX3_closes rm_X3_closes (gPre dC dI k [.ref n_t, .ref n_p1, .int x2] sz (wd_140f23 k n_t n_p1 n_places n_equations n_p1_rows v_divisor v_squareSum v_p1_size v_p1_stations r_places r_p1_rows)) (gQI dC dI (va_A (wd_140f23 k n_t n_p1 n_places n_equations n_p1_rows v_divisor v_squareSum v_p1_size v_p1_stations r_places r_p1_rows) sz) o_r (wd_140f23 k n_t n_p1 n_places n_equations n_p1_rows v_divisor v_squareSum v_p1_size v_p1_stations o_r_places r_p1_rows)) 0 0 (va_A (wd_140f23 k n_t n_p1 n_places n_equations n_p1_rows v_divisor v_squareSum v_p1_size v_p1_stations r_places r_p1_rows) sz) := by
  refine g_entry (cc := cX3_closes) (maxL := 4) (ret := (some .boolean)) (lv := [(0, .ref n_t), (1, .ref n_p1), (2, .int x2)]) (by decide +kernel) rfl (Nat.le_of_ble_eq_true rfl) rfl (fun p e s m below meth c ls hx hb hr hml hts hown hlk hnm hsz hG hA hP hD hS hl => ?_)
  exact k_X3_closes hx hb hml hts hown hG hA F n_t n_p1 n_places n_equations n_p1_rows v_divisor v_squareSum v_p1_size v_p1_stations r_places r_p1_rows x2 o_r o_r_places (fun pc H locs ls v q_r_places hd ho hz hP hD hS => by cases ho; exact g_iretz hx hb hr hlk hP hD hS hz hd) s.heap [] ls hl hP hD hS hm
end
section
set_option maxHeartbeats 4000000 in
set_option maxRecDepth 100000 in
theorem k_X3_addTo {p : Program} {l : Launch} {e : Env} {s : State} {m : MethodId} {args : Array Value} {below : List Frame} {meth : Method} {c : Code} {A : Nat → Prop} {Q : State → Prop} {dC : Nat → ClassId} {dI : Nat → Nat → Nat} {k : Nat → ClassId} (hx : p.tables.exec = Jvm.exec) (hb : c.code = cX3_addTo) (hml : c.maxLocals = 5) (hts : ∀ w ∈ wsX3_addTo, w.before args s = true) (hown : s.vm.findClass RX3 = some m.cls) (hG : gK dC dI k A s) (hA : ∀ q : Nat, s.heap.size ≤ q → A q) (n_t n_places n_equations : Nat) (v_divisor : Int64) (v_squareSum : Int64) (r_equations : Nat → Int64) (x1 : Int32) (x2 : Int32) (x3 : Int64) (o_r_equations : (Nat → Int64)) (RET : ∀ (pc : Nat) (H : Heap) (locs : List Loc) (ls : Array Slot) (q_r_equations : Nat → Int64), decode cX3_addTo pc = .ok (.return_, 1) → some q_r_equations = some o_r_equations → va_P (dC, dI) vwCl (wd_4ee339 k n_t n_places n_equations v_divisor v_squareSum q_r_equations) H → va_D A (wd_4ee339 k n_t n_places n_equations v_divisor v_squareSum q_r_equations) → va_S A s.heap H locs → W p l e rm_X3_addTo s m args below meth c H locs 0 0 Q (F0 m pc ls [])) (H : Heap) (locs : List Loc) (ls : Array Slot) (hl : lv_has ls 5 [(0, .ref n_t), (1, .int x1), (2, .int x2), (3, .long x3)]) (hP : va_P (dC, dI) vwCl (wd_4ee339 k n_t n_places n_equations v_divisor v_squareSum r_equations) H) (hD : va_D A (wd_4ee339 k n_t n_places n_equations v_divisor v_squareSum r_equations)) (hS : va_S A s.heap H locs) (hm : f_X3_addTo x1 x2 x3 r_equations = some o_r_equations) : W p l e rm_X3_addTo s m args below meth c H locs 0 0 Q (F0 m 0 ls []) := by
  have hinX3 : ∀ w ∈ u_ws RX3 TX3 4, w ∈ wsX3_addTo := by decide +kernel
  have k0 := hts (.fieldLink RX3 15 "CaveLegs$Survey" "equations" "[J") (by decide +kernel)
  unfold f_X3_addTo at hm
  refine lv_iload_n hx hb dX3_addTo_0 rfl (lv_at hl 1 rfl) ?_
  refine lv_iconst (v := (1 : Int32)) hx hb dX3_addTo_1 (by decide) ?_
  refine lv_icmp_lt (tgt := 37) hx hb dX3_addTo_2 (by decide) (fun c1 => ?_) (fun c1 => ?_)
  · replace hm := ifp c1 hm
    exact RET _ _ _ _ _ dX3_addTo_37 hm hP hD hS
  · replace hm := ifn c1 hm
    refine lv_iload_n hx hb dX3_addTo_5 rfl (lv_at hl 1 rfl) ?_
    refine lv_iconst (v := (5 : Int32)) hx hb dX3_addTo_6 (by decide) ?_
    refine lv_icmp_gt (tgt := 37) hx hb dX3_addTo_7 (by decide) (fun c2 => ?_) (fun c2 => ?_)
    · replace hm := ifp c2 hm
      exact RET _ _ _ _ _ dX3_addTo_37 hm hP hD hS
    · replace hm := ifn c2 hm
      refine lv_iload_n hx hb dX3_addTo_10 rfl (lv_at hl 2 rfl) ?_
      refine lv_if_lt (tgt := 37) hx hb dX3_addTo_11 (by decide) (fun c3 => ?_) (fun c3 => ?_)
      · replace hm := ifp c3 hm
        exact RET _ _ _ _ _ dX3_addTo_37 hm hP hD hS
      · replace hm := ifn c3 hm
        refine lv_iload_n hx hb dX3_addTo_14 rfl (lv_at hl 2 rfl) ?_
        refine lv_bipush (v := (8 : Int32)) hx hb dX3_addTo_15 (by decide) ?_
        refine lv_icmp_ge (tgt := 37) hx hb dX3_addTo_17 (by decide) (fun c4 => ?_) (fun c4 => ?_)
        · replace hm := ifp c4 hm
          exact RET _ _ _ _ _ dX3_addTo_37 hm hP hD hS
        · replace hm := ifn c4 hm
          refine lv_aload_n hx hb dX3_addTo_20 rfl (lv_at hl 0 rfl) ?_
          refine va_get (D := (dC, dI)) (ci := 3) (v := .ref n_equations) (C := RX3) (T := TX3) (N := 4) hx hb hts hinX3 hown hG.1 hP 0 rfl rfl 1 (by decide) k0 (fun _ h9 => h9) rfl dX3_addTo_21 ?_
          refine lv_iload_n hx hb dX3_addTo_24 rfl (lv_at hl 1 rfl) ?_
          refine lv_iconst (v := (1 : Int32)) hx hb dX3_addTo_25 (by decide) ?_
          refine lv_isub hx hb dX3_addTo_26 ?_
          refine lv_bipush (v := (8 : Int32)) hx hb dX3_addTo_27 (by decide) ?_
          refine lv_imul hx hb dX3_addTo_29 ?_
          refine lv_iload_n hx hb dX3_addTo_30 rfl (lv_at hl 2 rfl) ?_
          refine lv_iadd hx hb dX3_addTo_31 ?_
          refine lv_topi (fun t5 et5 => ?_)
          replace hm := (nmd_eq et5).trans hm
          refine lv_dup2_11 hx hb dX3_addTo_32 rfl rfl ?_
          obtain ⟨hi6, hm⟩ := chk_some hm
          refine va_lald hx hb hG.1 hP 1 1 rfl rfl hi6 dX3_addTo_33 ?_
          refine lv_lload_n hx hb dX3_addTo_34 rfl (lv_at hl 3 rfl) ?_
          refine lv_ladd hx hb dX3_addTo_35 ?_
          refine lv_topl (fun t7 et7 => ?_)
          replace hm := (nmd_eq et7).trans hm
          obtain ⟨hi8, hm⟩ := chk_some hm
          refine va_last hx hb hG.1 hP hD hS 1 1 rfl rfl hi8 dX3_addTo_36 (fun H locs hP hD hS => ?_)
          replace hP : va_P (dC, dI) vwCl (wd_4ee339 k n_t n_places n_equations v_divisor v_squareSum (vp_updL r_equations (Int32.toNatClampNeg t5) t7)) H := hP
          replace hD : va_D A (wd_4ee339 k n_t n_places n_equations v_divisor v_squareSum (vp_updL r_equations (Int32.toNatClampNeg t5) t7)) := hD
          exact RET _ _ _ _ _ dX3_addTo_37 hm hP hD hS
set_option maxRecDepth 100000 in
theorem m_X3_addTo (l : Launch) (dC : Nat → ClassId) (dI : Nat → Nat → Nat) (k : Nat → ClassId) (sz : Nat) (n_t n_places n_equations : Nat) (v_divisor : Int64) (v_squareSum : Int64) (r_equations : Nat → Int64) (x1 : Int32) (x2 : Int32) (x3 : Int64) {o_r_equations : (Nat → Int64)} (hm : f_X3_addTo x1 x2 x3 r_equations = some o_r_equations) : Met l yX3_addTo wsX3_addTo rm_X3_addTo (gPre dC dI k [.ref n_t, .int x1, .int x2, .long x3] sz (wd_4ee339 k n_t n_places n_equations v_divisor v_squareSum r_equations)) (gQV dC dI (va_A (wd_4ee339 k n_t n_places n_equations v_divisor v_squareSum r_equations) sz) (wd_4ee339 k n_t n_places n_equations v_divisor v_squareSum o_r_equations)) 0 0 (va_A (wd_4ee339 k n_t n_places n_equations v_divisor v_squareSum r_equations) sz) := by
  refine g_entry (cc := cX3_addTo) (maxL := 5) (ret := none) (lv := [(0, .ref n_t), (1, .int x1), (2, .int x2), (3, .long x3)]) (by decide +kernel) rfl (Nat.le_of_ble_eq_true rfl) rfl (fun p e s m below meth c ls hx hb hr hml hts hown hlk hnm hsz hG hA hP hD hS hl => ?_)
  exact k_X3_addTo hx hb hml hts hown hG hA n_t n_places n_equations v_divisor v_squareSum r_equations x1 x2 x3 o_r_equations (fun pc H locs ls q_r_equations hd ho hP hD hS => by cases ho; exact g_vret hx hb hr hlk hP hD hS hd) s.heap [] ls hl hP hD hS hm
end
section
set_option maxHeartbeats 4000000 in
set_option maxRecDepth 100000 in
theorem k_X3_enter {p : Program} {l : Launch} {e : Env} {s : State} {m : MethodId} {args : Array Value} {below : List Frame} {meth : Method} {c : Code} {A : Nat → Prop} {Q : State → Prop} {dC : Nat → ClassId} {dI : Nat → Nat → Nat} {k : Nat → ClassId} (hx : p.tables.exec = Jvm.exec) (hb : c.code = cX3_enter) (hml : c.maxLocals = 7) (hts : ∀ w ∈ wsX3_enter, w.before args s = true) (hown : s.vm.findClass RX3 = some m.cls) (hG : gK dC dI k A s) (hA : ∀ q : Nat, s.heap.size ≤ q → A q) (F : Nat) (n_t n_p1 n_places n_equations n_p1_rows : Nat) (v_divisor : Int64) (v_squareSum : Int64) (v_p1_size : Int32) (v_p1_stations : Int32) (r_equations : Nat → Int64) (r_p1_rows : Nat → Int32) (x2 : Int32) (o_r_equations : (Nat → Int64)) (RET : ∀ (pc : Nat) (H : Heap) (locs : List Loc) (ls : Array Slot) (q_r_equations : Nat → Int64), decode cX3_enter pc = .ok (.return_, 1) → some q_r_equations = some o_r_equations → va_P (dC, dI) vwCl (wd_9ad03a k n_t n_p1 n_places n_equations n_p1_rows v_divisor v_squareSum v_p1_size v_p1_stations q_r_equations r_p1_rows) H → va_D A (wd_9ad03a k n_t n_p1 n_places n_equations n_p1_rows v_divisor v_squareSum v_p1_size v_p1_stations q_r_equations r_p1_rows) → va_S A s.heap H locs → W p l e rm_X3_enter s m args below meth c H locs 0 0 Q (F0 m pc ls [])) (H : Heap) (locs : List Loc) (ls : Array Slot) (hl : lv_has ls 7 [(0, .ref n_t), (1, .ref n_p1), (2, .int x2)]) (hP : va_P (dC, dI) vwCl (wd_9ad03a k n_t n_p1 n_places n_equations n_p1_rows v_divisor v_squareSum v_p1_size v_p1_stations r_equations r_p1_rows) H) (hD : va_D A (wd_9ad03a k n_t n_p1 n_places n_equations n_p1_rows v_divisor v_squareSum v_p1_size v_p1_stations r_equations r_p1_rows)) (hS : va_S A s.heap H locs) (hm : f_X3_enter F x2 r_equations r_p1_rows = some o_r_equations) : W p l e rm_X3_enter s m args below meth c H locs 0 0 Q (F0 m 0 ls []) := by
  have k0 := hts (.constantLong RX3 96 (-1)) (by decide +kernel)
  have L_62 : ∀ (n62 : Nat) (r_equations : Nat → Int64) (x2 : Int32) (x3 : Int32) (x4 : Int32) (x5 : Int32) (H : Heap) (locs : List Loc) (ls : Array Slot), lv_has ls 7 [(0, .ref n_t), (1, .ref n_p1), (2, .int x2), (3, .int x3), (4, .int x4), (5, .int x5)] → va_P (dC, dI) vwCl (wd_9ad03a k n_t n_p1 n_places n_equations n_p1_rows v_divisor v_squareSum v_p1_size v_p1_stations r_equations r_p1_rows) H → va_D A (wd_9ad03a k n_t n_p1 n_places n_equations n_p1_rows v_divisor v_squareSum v_p1_size v_p1_stations r_equations r_p1_rows) → va_S A s.heap H locs → f_X3_enter_L62 F r_p1_rows n62 r_equations x2 x3 x4 x5 = some o_r_equations → W p l e rm_X3_enter s m args below meth c H locs 0 0 Q (F0 m 62 ls []) := by
    intro n62
    induction n62 with
    | zero =>
      intro r_equations x2 x3 x4 x5 H locs ls hl hP hD hS hm
      exact non_some hm
    | succ n62 ih62 =>
      intro r_equations x2 x3 x4 x5 H locs ls hl hP hD hS hm
      replace hm : f_X3_enter_B62 F r_p1_rows (f_X3_enter_L62 F r_p1_rows n62) r_equations x2 x3 x4 x5 = some o_r_equations := hm
      unfold f_X3_enter_B62 at hm
      refine lv_iload hx hb dX3_enter_62 (lv_at hl 5 rfl) ?_
      refine lv_iconst (v := (3 : Int32)) hx hb dX3_enter_64 (by decide) ?_
      refine lv_icmp_ge (tgt := 109) hx hb dX3_enter_65 (by decide) (fun c1 => ?_) (fun c1 => ?_)
      · replace hm := ifp c1 hm
        exact RET _ _ _ _ _ dX3_enter_109 hm hP hD hS
      · replace hm := ifn c1 hm
        refine lv_aload_n hx hb dX3_enter_68 rfl (lv_at hl 1 rfl) ?_
        refine lv_iload_n hx hb dX3_enter_69 rfl (lv_at hl 2 rfl) ?_
        refine lv_iload hx hb dX3_enter_70 (lv_at hl 5 rfl) ?_
        obtain ⟨r2, e3, hm⟩ := bnd1_some hm
        refine g_calli (w2 := (wd_9ad03a k n_t n_p1 n_places n_equations n_p1_rows v_divisor v_squareSum v_p1_size v_p1_stations r_equations r_p1_rows)) (va_runV (As := [.int x2, .int x5]) (rest := []) ⟨hx, hb, hml, hown, hts⟩ (m_X0_vector l dC dI k H.size n_p1 n_p1_rows v_p1_size v_p1_stations r_p1_rows x2 x5 e3) (cwV 2 hts gX3_enter_X0_vector rfl rfl rfl (by decide +kernel) ⟨Nat.le_of_ble_eq_true rfl, Nat.le_of_ble_eq_true rfl⟩) (g_preV hG hP hD hS hA [2, 3] rfl (by decide) (ci := 0) (q0 := 2) rfl rfl) rfl rfl hl.1 rfl (lv_room (Nat.le_of_ble_eq_true rfl)) dX3_enter_72 ⟨Nat.le_of_ble_eq_true rfl, Nat.le_of_ble_eq_true rfl⟩) hP hD hS hA [2, 3] [0, 1] [0, 1, 2, 3] rfl rfl (by decide) (by decide) rfl (by decide) (fun H locs hP hD hS => ?_)
        refine lv_istore (lv' := [(6, .int r2), (0, .ref n_t), (1, .ref n_p1), (2, .int x2), (3, .int x3), (4, .int x4), (5, .int x5)]) hx hb dX3_enter_75 hl (by decide) rfl (fun ls hl => ?_)
        refine lv_aload_n hx hb dX3_enter_77 rfl (lv_at hl 1 rfl) ?_
        refine lv_iload_n hx hb dX3_enter_78 rfl (lv_at hl 4 rfl) ?_
        refine lv_iconst (v := (5 : Int32)) hx hb dX3_enter_79 (by decide) ?_
        refine lv_iload hx hb dX3_enter_80 (lv_at hl 6 rfl) ?_
        refine lv_iadd hx hb dX3_enter_82 ?_
        refine lv_iload hx hb dX3_enter_83 (lv_at hl 0 rfl) ?_
        refine lv_ineg hx hb dX3_enter_85 ?_
        refine g_i2l hx hb dX3_enter_86 ?_
        obtain ⟨w4, e5, hm⟩ := bnd1_some hm
        refine g_callv (w2 := (wd_9ad03a k n_t n_p1 n_places n_equations n_p1_rows v_divisor v_squareSum v_p1_size v_p1_stations w4 r_p1_rows)) (va_runV (As := [.int x3, .int ((5 : Int32) + x5), .long (Int32.toInt64 (-r2))]) (rest := []) ⟨hx, hb, hml, hown, hts⟩ (m_X3_addTo l dC dI k H.size n_t n_places n_equations v_divisor v_squareSum r_equations x3 ((5 : Int32) + x5) (Int32.toInt64 (-r2)) e5) (cwV 3 hts gX3_enter_X3_addTo rfl rfl rfl (by decide +kernel) ⟨Nat.le_of_ble_eq_true rfl, Nat.le_of_ble_eq_true rfl⟩) (g_preV hG hP hD hS hA [0, 1] rfl (by decide) (ci := 3) (q0 := 0) rfl rfl) rfl rfl hl.1 rfl (lv_room (Nat.le_of_ble_eq_true rfl)) dX3_enter_87 ⟨Nat.le_of_ble_eq_true rfl, Nat.le_of_ble_eq_true rfl⟩) hP hD hS hA [0, 1] [2, 3] [2, 3, 0, 1] rfl rfl (by decide) (by decide) rfl (by decide) (fun H locs hP hD hS => ?_)
        refine lv_aload_n hx hb dX3_enter_90 rfl (lv_at hl 1 rfl) ?_
        refine lv_iload hx hb dX3_enter_91 (lv_at hl 5 rfl) ?_
        refine lv_iconst (v := (5 : Int32)) hx hb dX3_enter_93 (by decide) ?_
        refine lv_iload hx hb dX3_enter_94 (lv_at hl 6 rfl) ?_
        refine lv_iadd hx hb dX3_enter_96 ?_
        refine lv_iload hx hb dX3_enter_97 (lv_at hl 0 rfl) ?_
        refine g_i2l hx hb dX3_enter_99 ?_
        obtain ⟨w6, e7, hm⟩ := bnd1_some hm
        refine g_callv (w2 := (wd_9ad03a k n_t n_p1 n_places n_equations n_p1_rows v_divisor v_squareSum v_p1_size v_p1_stations w6 r_p1_rows)) (va_runV (As := [.int x4, .int ((5 : Int32) + x5), .long (Int32.toInt64 r2)]) (rest := []) ⟨hx, hb, hml, hown, hts⟩ (m_X3_addTo l dC dI k H.size n_t n_places n_equations v_divisor v_squareSum w4 x4 ((5 : Int32) + x5) (Int32.toInt64 r2) e7) (cwV 3 hts gX3_enter_X3_addTo rfl rfl rfl (by decide +kernel) ⟨Nat.le_of_ble_eq_true rfl, Nat.le_of_ble_eq_true rfl⟩) (g_preV hG hP hD hS hA [0, 1] rfl (by decide) (ci := 3) (q0 := 0) rfl rfl) rfl rfl hl.1 rfl (lv_room (Nat.le_of_ble_eq_true rfl)) dX3_enter_100 ⟨Nat.le_of_ble_eq_true rfl, Nat.le_of_ble_eq_true rfl⟩) hP hD hS hA [0, 1] [2, 3] [2, 3, 0, 1] rfl rfl (by decide) (by decide) rfl (by decide) (fun H locs hP hD hS => ?_)
        obtain ⟨t8, et8⟩ : ∃ y : Int32, y = x5 + (1 : Int32) := ⟨_, rfl⟩
        replace hm := (nmd_eq et8).trans hm
        refine lv_iinc (v := t8) (lv' := [(5, .int t8), (6, .int r2), (0, .ref n_t), (1, .ref n_p1), (2, .int x2), (3, .int x3), (4, .int x4)]) hx hb dX3_enter_103 hl (k := 6) rfl (by rw [et8]; rfl) (by decide) rfl (fun ls hl => ?_)
        refine lv_goto (tgt := 62) hx hb dX3_enter_106 (by decide) ?_
        exact ih62 _ _ _ _ _ _ _ _ (lv_sub hl [2, 3, 4, 5, 6, 0] rfl) hP hD hS hm
  unfold f_X3_enter at hm
  refine lv_aload_n hx hb dX3_enter_0 rfl (lv_at hl 1 rfl) ?_
  refine lv_iload_n hx hb dX3_enter_1 rfl (lv_at hl 2 rfl) ?_
  refine lv_iconst (v := (4 : Int32)) hx hb dX3_enter_2 (by decide) ?_
  obtain ⟨r9, e10, hm⟩ := bnd1_some hm
  refine g_calli (w2 := (wd_9ad03a k n_t n_p1 n_places n_equations n_p1_rows v_divisor v_squareSum v_p1_size v_p1_stations r_equations r_p1_rows)) (va_runV (As := [.int x2, .int (4 : Int32)]) (rest := []) ⟨hx, hb, hml, hown, hts⟩ (m_X0_get l dC dI k H.size n_p1 n_p1_rows v_p1_size v_p1_stations r_p1_rows x2 (4 : Int32) e10) (cwV 2 hts gX3_enter_X0_get rfl rfl rfl (by decide +kernel) ⟨Nat.le_of_ble_eq_true rfl, Nat.le_of_ble_eq_true rfl⟩) (g_preV hG hP hD hS hA [2, 3] rfl (by decide) (ci := 0) (q0 := 2) rfl rfl) rfl rfl hl.1 rfl (lv_room (Nat.le_of_ble_eq_true rfl)) dX3_enter_3 ⟨Nat.le_of_ble_eq_true rfl, Nat.le_of_ble_eq_true rfl⟩) hP hD hS hA [2, 3] [0, 1] [0, 1, 2, 3] rfl rfl (by decide) (by decide) rfl (by decide) (fun H locs hP hD hS => ?_)
  refine lv_istore_n (lv' := [(3, .int r9), (0, .ref n_t), (1, .ref n_p1), (2, .int x2)]) hx hb dX3_enter_6 rfl hl (by decide) rfl (fun ls hl => ?_)
  refine lv_aload_n hx hb dX3_enter_7 rfl (lv_at hl 2 rfl) ?_
  refine lv_iload_n hx hb dX3_enter_8 rfl (lv_at hl 3 rfl) ?_
  refine lv_iconst (v := (5 : Int32)) hx hb dX3_enter_9 (by decide) ?_
  obtain ⟨r11, e12, hm⟩ := bnd1_some hm
  refine g_calli (w2 := (wd_9ad03a k n_t n_p1 n_places n_equations n_p1_rows v_divisor v_squareSum v_p1_size v_p1_stations r_equations r_p1_rows)) (va_runV (As := [.int x2, .int (5 : Int32)]) (rest := []) ⟨hx, hb, hml, hown, hts⟩ (m_X0_get l dC dI k H.size n_p1 n_p1_rows v_p1_size v_p1_stations r_p1_rows x2 (5 : Int32) e12) (cwV 2 hts gX3_enter_X0_get rfl rfl rfl (by decide +kernel) ⟨Nat.le_of_ble_eq_true rfl, Nat.le_of_ble_eq_true rfl⟩) (g_preV hG hP hD hS hA [2, 3] rfl (by decide) (ci := 0) (q0 := 2) rfl rfl) rfl rfl hl.1 rfl (lv_room (Nat.le_of_ble_eq_true rfl)) dX3_enter_10 ⟨Nat.le_of_ble_eq_true rfl, Nat.le_of_ble_eq_true rfl⟩) hP hD hS hA [2, 3] [0, 1] [0, 1, 2, 3] rfl rfl (by decide) (by decide) rfl (by decide) (fun H locs hP hD hS => ?_)
  refine lv_istore (lv' := [(4, .int r11), (3, .int r9), (0, .ref n_t), (1, .ref n_p1), (2, .int x2)]) hx hb dX3_enter_13 hl (by decide) rfl (fun ls hl => ?_)
  refine lv_aload_n hx hb dX3_enter_15 rfl (lv_at hl 2 rfl) ?_
  refine lv_iload_n hx hb dX3_enter_16 rfl (lv_at hl 1 rfl) ?_
  refine lv_iload_n hx hb dX3_enter_17 rfl (lv_at hl 1 rfl) ?_
  refine lv_iconst (v := (1 : Int32)) hx hb dX3_enter_18 (by decide) ?_
  refine lv_isub hx hb dX3_enter_19 ?_
  refine lv_lconst (v := (1 : Int64)) hx hb dX3_enter_20 (by decide) ?_
  obtain ⟨w13, e14, hm⟩ := bnd1_some hm
  refine g_callv (w2 := (wd_9ad03a k n_t n_p1 n_places n_equations n_p1_rows v_divisor v_squareSum v_p1_size v_p1_stations w13 r_p1_rows)) (va_runV (As := [.int r9, .int (r9 - (1 : Int32)), .long (1 : Int64)]) (rest := []) ⟨hx, hb, hml, hown, hts⟩ (m_X3_addTo l dC dI k H.size n_t n_places n_equations v_divisor v_squareSum r_equations r9 (r9 - (1 : Int32)) (1 : Int64) e14) (cwV 3 hts gX3_enter_X3_addTo rfl rfl rfl (by decide +kernel) ⟨Nat.le_of_ble_eq_true rfl, Nat.le_of_ble_eq_true rfl⟩) (g_preV hG hP hD hS hA [0, 1] rfl (by decide) (ci := 3) (q0 := 0) rfl rfl) rfl rfl hl.1 rfl (lv_room (Nat.le_of_ble_eq_true rfl)) dX3_enter_21 ⟨Nat.le_of_ble_eq_true rfl, Nat.le_of_ble_eq_true rfl⟩) hP hD hS hA [0, 1] [2, 3] [2, 3, 0, 1] rfl rfl (by decide) (by decide) rfl (by decide) (fun H locs hP hD hS => ?_)
  refine lv_aload_n hx hb dX3_enter_24 rfl (lv_at hl 2 rfl) ?_
  refine lv_iload_n hx hb dX3_enter_25 rfl (lv_at hl 1 rfl) ?_
  refine lv_iload hx hb dX3_enter_26 (lv_at hl 0 rfl) ?_
  refine lv_iconst (v := (1 : Int32)) hx hb dX3_enter_28 (by decide) ?_
  refine lv_isub hx hb dX3_enter_29 ?_
  refine lv_ldc2 (v := (-1 : Int64)) hx hb hown k0 dX3_enter_30 ?_
  obtain ⟨w15, e16, hm⟩ := bnd1_some hm
  refine g_callv (w2 := (wd_9ad03a k n_t n_p1 n_places n_equations n_p1_rows v_divisor v_squareSum v_p1_size v_p1_stations w15 r_p1_rows)) (va_runV (As := [.int r9, .int (r11 - (1 : Int32)), .long (-1 : Int64)]) (rest := []) ⟨hx, hb, hml, hown, hts⟩ (m_X3_addTo l dC dI k H.size n_t n_places n_equations v_divisor v_squareSum w13 r9 (r11 - (1 : Int32)) (-1 : Int64) e16) (cwV 3 hts gX3_enter_X3_addTo rfl rfl rfl (by decide +kernel) ⟨Nat.le_of_ble_eq_true rfl, Nat.le_of_ble_eq_true rfl⟩) (g_preV hG hP hD hS hA [0, 1] rfl (by decide) (ci := 3) (q0 := 0) rfl rfl) rfl rfl hl.1 rfl (lv_room (Nat.le_of_ble_eq_true rfl)) dX3_enter_33 ⟨Nat.le_of_ble_eq_true rfl, Nat.le_of_ble_eq_true rfl⟩) hP hD hS hA [0, 1] [2, 3] [2, 3, 0, 1] rfl rfl (by decide) (by decide) rfl (by decide) (fun H locs hP hD hS => ?_)
  refine lv_aload_n hx hb dX3_enter_36 rfl (lv_at hl 2 rfl) ?_
  refine lv_iload hx hb dX3_enter_37 (lv_at hl 0 rfl) ?_
  refine lv_iload hx hb dX3_enter_39 (lv_at hl 0 rfl) ?_
  refine lv_iconst (v := (1 : Int32)) hx hb dX3_enter_41 (by decide) ?_
  refine lv_isub hx hb dX3_enter_42 ?_
  refine lv_lconst (v := (1 : Int64)) hx hb dX3_enter_43 (by decide) ?_
  obtain ⟨w17, e18, hm⟩ := bnd1_some hm
  refine g_callv (w2 := (wd_9ad03a k n_t n_p1 n_places n_equations n_p1_rows v_divisor v_squareSum v_p1_size v_p1_stations w17 r_p1_rows)) (va_runV (As := [.int r11, .int (r11 - (1 : Int32)), .long (1 : Int64)]) (rest := []) ⟨hx, hb, hml, hown, hts⟩ (m_X3_addTo l dC dI k H.size n_t n_places n_equations v_divisor v_squareSum w15 r11 (r11 - (1 : Int32)) (1 : Int64) e18) (cwV 3 hts gX3_enter_X3_addTo rfl rfl rfl (by decide +kernel) ⟨Nat.le_of_ble_eq_true rfl, Nat.le_of_ble_eq_true rfl⟩) (g_preV hG hP hD hS hA [0, 1] rfl (by decide) (ci := 3) (q0 := 0) rfl rfl) rfl rfl hl.1 rfl (lv_room (Nat.le_of_ble_eq_true rfl)) dX3_enter_44 ⟨Nat.le_of_ble_eq_true rfl, Nat.le_of_ble_eq_true rfl⟩) hP hD hS hA [0, 1] [2, 3] [2, 3, 0, 1] rfl rfl (by decide) (by decide) rfl (by decide) (fun H locs hP hD hS => ?_)
  refine lv_aload_n hx hb dX3_enter_47 rfl (lv_at hl 2 rfl) ?_
  refine lv_iload hx hb dX3_enter_48 (lv_at hl 0 rfl) ?_
  refine lv_iload_n hx hb dX3_enter_50 rfl (lv_at hl 1 rfl) ?_
  refine lv_iconst (v := (1 : Int32)) hx hb dX3_enter_51 (by decide) ?_
  refine lv_isub hx hb dX3_enter_52 ?_
  refine lv_ldc2 (v := (-1 : Int64)) hx hb hown k0 dX3_enter_53 ?_
  obtain ⟨w19, e20, hm⟩ := bnd1_some hm
  refine g_callv (w2 := (wd_9ad03a k n_t n_p1 n_places n_equations n_p1_rows v_divisor v_squareSum v_p1_size v_p1_stations w19 r_p1_rows)) (va_runV (As := [.int r11, .int (r9 - (1 : Int32)), .long (-1 : Int64)]) (rest := []) ⟨hx, hb, hml, hown, hts⟩ (m_X3_addTo l dC dI k H.size n_t n_places n_equations v_divisor v_squareSum w17 r11 (r9 - (1 : Int32)) (-1 : Int64) e20) (cwV 3 hts gX3_enter_X3_addTo rfl rfl rfl (by decide +kernel) ⟨Nat.le_of_ble_eq_true rfl, Nat.le_of_ble_eq_true rfl⟩) (g_preV hG hP hD hS hA [0, 1] rfl (by decide) (ci := 3) (q0 := 0) rfl rfl) rfl rfl hl.1 rfl (lv_room (Nat.le_of_ble_eq_true rfl)) dX3_enter_56 ⟨Nat.le_of_ble_eq_true rfl, Nat.le_of_ble_eq_true rfl⟩) hP hD hS hA [0, 1] [2, 3] [2, 3, 0, 1] rfl rfl (by decide) (by decide) rfl (by decide) (fun H locs hP hD hS => ?_)
  refine lv_iconst (v := (0 : Int32)) hx hb dX3_enter_59 (by decide) ?_
  refine lv_istore (lv' := [(5, .int (0 : Int32)), (4, .int r11), (3, .int r9), (0, .ref n_t), (1, .ref n_p1), (2, .int x2)]) hx hb dX3_enter_60 hl (by decide) rfl (fun ls hl => ?_)
  exact L_62 F _ _ _ _ _ _ _ _ (lv_sub hl [3, 4, 5, 2, 1, 0] rfl) hP hD hS hm
set_option maxRecDepth 100000 in
theorem m_X3_enter (l : Launch) (dC : Nat → ClassId) (dI : Nat → Nat → Nat) (k : Nat → ClassId) (F : Nat) (sz : Nat) (n_t n_p1 n_places n_equations n_p1_rows : Nat) (v_divisor : Int64) (v_squareSum : Int64) (v_p1_size : Int32) (v_p1_stations : Int32) (r_equations : Nat → Int64) (r_p1_rows : Nat → Int32) (x2 : Int32) {o_r_equations : (Nat → Int64)} (hm : f_X3_enter F x2 r_equations r_p1_rows = some o_r_equations) : Met l yX3_enter wsX3_enter rm_X3_enter (gPre dC dI k [.ref n_t, .ref n_p1, .int x2] sz (wd_9ad03a k n_t n_p1 n_places n_equations n_p1_rows v_divisor v_squareSum v_p1_size v_p1_stations r_equations r_p1_rows)) (gQV dC dI (va_A (wd_9ad03a k n_t n_p1 n_places n_equations n_p1_rows v_divisor v_squareSum v_p1_size v_p1_stations r_equations r_p1_rows) sz) (wd_9ad03a k n_t n_p1 n_places n_equations n_p1_rows v_divisor v_squareSum v_p1_size v_p1_stations o_r_equations r_p1_rows)) 0 0 (va_A (wd_9ad03a k n_t n_p1 n_places n_equations n_p1_rows v_divisor v_squareSum v_p1_size v_p1_stations r_equations r_p1_rows) sz) := by
  refine g_entry (cc := cX3_enter) (maxL := 7) (ret := none) (lv := [(0, .ref n_t), (1, .ref n_p1), (2, .int x2)]) (by decide +kernel) rfl (Nat.le_of_ble_eq_true rfl) rfl (fun p e s m below meth c ls hx hb hr hml hts hown hlk hnm hsz hG hA hP hD hS hl => ?_)
  exact k_X3_enter hx hb hml hts hown hG hA F n_t n_p1 n_places n_equations n_p1_rows v_divisor v_squareSum v_p1_size v_p1_stations r_equations r_p1_rows x2 o_r_equations (fun pc H locs ls q_r_equations hd ho hP hD hS => by cases ho; exact g_vret hx hb hr hlk hP hD hS hd) s.heap [] ls hl hP hD hS hm
end
section
set_option maxHeartbeats 4000000 in
set_option maxRecDepth 100000 in
theorem k_X3_entry {p : Program} {l : Launch} {e : Env} {s : State} {m : MethodId} {args : Array Value} {below : List Frame} {meth : Method} {c : Code} {A : Nat → Prop} {Q : State → Prop} {dC : Nat → ClassId} {dI : Nat → Nat → Nat} {k : Nat → ClassId} (hx : p.tables.exec = Jvm.exec) (hb : c.code = cX3_entry) (hml : c.maxLocals = 3) (hts : ∀ w ∈ wsX3_entry, w.before args s = true) (hown : s.vm.findClass RX3 = some m.cls) (hG : gK dC dI k A s) (hA : ∀ q : Nat, s.heap.size ≤ q → A q) (n_t n_places n_equations : Nat) (v_divisor : Int64) (v_squareSum : Int64) (r_equations : Nat → Int64) (x1 : Int32) (x2 : Int32) (o_r : Int64) (RET : ∀ (pc : Nat) (H : Heap) (locs : List Loc) (ls : Array Slot) (v : Int64), decode cX3_entry pc = .ok (.lreturn, 1) → some v = some o_r → va_P (dC, dI) vwCl (wd_4ee339 k n_t n_places n_equations v_divisor v_squareSum r_equations) H → va_D A (wd_4ee339 k n_t n_places n_equations v_divisor v_squareSum r_equations) → va_S A s.heap H locs → W p l e rm_X3_entry s m args below meth c H locs 0 0 Q (F0 m pc ls [.long v])) (H : Heap) (locs : List Loc) (ls : Array Slot) (hl : lv_has ls 3 [(0, .ref n_t), (1, .int x1), (2, .int x2)]) (hP : va_P (dC, dI) vwCl (wd_4ee339 k n_t n_places n_equations v_divisor v_squareSum r_equations) H) (hD : va_D A (wd_4ee339 k n_t n_places n_equations v_divisor v_squareSum r_equations)) (hS : va_S A s.heap H locs) (hm : f_X3_entry x1 x2 r_equations = some o_r) : W p l e rm_X3_entry s m args below meth c H locs 0 0 Q (F0 m 0 ls []) := by
  have hinX3 : ∀ w ∈ u_ws RX3 TX3 4, w ∈ wsX3_entry := by decide +kernel
  have k0 := hts (.fieldLink RX3 15 "CaveLegs$Survey" "equations" "[J") (by decide +kernel)
  unfold f_X3_entry at hm
  refine lv_iload_n hx hb dX3_entry_0 rfl (lv_at hl 1 rfl) ?_
  refine lv_if_lt (tgt := 19) hx hb dX3_entry_1 (by decide) (fun c1 => ?_) (fun c1 => ?_)
  · replace hm := ifp c1 hm
    refine lv_lconst (v := (0 : Int64)) hx hb dX3_entry_19 (by decide) ?_
    exact RET _ _ _ _ _ dX3_entry_20 hm hP hD hS
  · replace hm := ifn c1 hm
    refine lv_iload_n hx hb dX3_entry_4 rfl (lv_at hl 1 rfl) ?_
    refine lv_iconst (v := (5 : Int32)) hx hb dX3_entry_5 (by decide) ?_
    refine lv_icmp_ge (tgt := 19) hx hb dX3_entry_6 (by decide) (fun c2 => ?_) (fun c2 => ?_)
    · replace hm := ifp c2 hm
      refine lv_lconst (v := (0 : Int64)) hx hb dX3_entry_19 (by decide) ?_
      exact RET _ _ _ _ _ dX3_entry_20 hm hP hD hS
    · replace hm := ifn c2 hm
      refine lv_iload_n hx hb dX3_entry_9 rfl (lv_at hl 2 rfl) ?_
      refine lv_if_lt (tgt := 19) hx hb dX3_entry_10 (by decide) (fun c3 => ?_) (fun c3 => ?_)
      · replace hm := ifp c3 hm
        refine lv_lconst (v := (0 : Int64)) hx hb dX3_entry_19 (by decide) ?_
        exact RET _ _ _ _ _ dX3_entry_20 hm hP hD hS
      · replace hm := ifn c3 hm
        refine lv_iload_n hx hb dX3_entry_13 rfl (lv_at hl 2 rfl) ?_
        refine lv_bipush (v := (8 : Int32)) hx hb dX3_entry_14 (by decide) ?_
        refine lv_icmp_lt (tgt := 21) hx hb dX3_entry_16 (by decide) (fun c4 => ?_) (fun c4 => ?_)
        · replace hm := ifp c4 hm
          refine lv_aload_n hx hb dX3_entry_21 rfl (lv_at hl 0 rfl) ?_
          refine va_get (D := (dC, dI)) (ci := 3) (v := .ref n_equations) (C := RX3) (T := TX3) (N := 4) hx hb hts hinX3 hown hG.1 hP 0 rfl rfl 1 (by decide) k0 (fun _ h9 => h9) rfl dX3_entry_22 ?_
          refine lv_iload_n hx hb dX3_entry_25 rfl (lv_at hl 1 rfl) ?_
          refine lv_bipush (v := (8 : Int32)) hx hb dX3_entry_26 (by decide) ?_
          refine lv_imul hx hb dX3_entry_28 ?_
          refine lv_iload_n hx hb dX3_entry_29 rfl (lv_at hl 2 rfl) ?_
          refine lv_iadd hx hb dX3_entry_30 ?_
          obtain ⟨hi5, hm⟩ := chk_some hm
          refine va_lald hx hb hG.1 hP 1 1 rfl rfl hi5 dX3_entry_31 ?_
          exact RET _ _ _ _ _ dX3_entry_32 hm hP hD hS
        · replace hm := ifn c4 hm
          refine lv_lconst (v := (0 : Int64)) hx hb dX3_entry_19 (by decide) ?_
          exact RET _ _ _ _ _ dX3_entry_20 hm hP hD hS
set_option maxRecDepth 100000 in
theorem m_X3_entry (l : Launch) (dC : Nat → ClassId) (dI : Nat → Nat → Nat) (k : Nat → ClassId) (sz : Nat) (n_t n_places n_equations : Nat) (v_divisor : Int64) (v_squareSum : Int64) (r_equations : Nat → Int64) (x1 : Int32) (x2 : Int32) {o_r : Int64} (hm : f_X3_entry x1 x2 r_equations = some o_r) : Met l yX3_entry wsX3_entry rm_X3_entry (gPre dC dI k [.ref n_t, .int x1, .int x2] sz (wd_4ee339 k n_t n_places n_equations v_divisor v_squareSum r_equations)) (gQL dC dI (va_A (wd_4ee339 k n_t n_places n_equations v_divisor v_squareSum r_equations) sz) o_r (wd_4ee339 k n_t n_places n_equations v_divisor v_squareSum r_equations)) 0 0 (va_A (wd_4ee339 k n_t n_places n_equations v_divisor v_squareSum r_equations) sz) := by
  refine g_entry (cc := cX3_entry) (maxL := 3) (ret := (some .long)) (lv := [(0, .ref n_t), (1, .int x1), (2, .int x2)]) (by decide +kernel) rfl (Nat.le_of_ble_eq_true rfl) rfl (fun p e s m below meth c ls hx hb hr hml hts hown hlk hnm hsz hG hA hP hD hS hl => ?_)
  exact k_X3_entry hx hb hml hts hown hG hA n_t n_places n_equations v_divisor v_squareSum r_equations x1 x2 o_r (fun pc H locs ls v hd ho hP hD hS => by cases ho; exact g_lret hx hb hr hlk hP hD hS hd) s.heap [] ls hl hP hD hS hm
end
section
set_option maxHeartbeats 4000000 in
set_option maxRecDepth 100000 in
theorem k_X3_eliminate {p : Program} {l : Launch} {e : Env} {s : State} {m : MethodId} {args : Array Value} {below : List Frame} {meth : Method} {c : Code} {A : Nat → Prop} {Q : State → Prop} {dC : Nat → ClassId} {dI : Nat → Nat → Nat} {k : Nat → ClassId} (hx : p.tables.exec = Jvm.exec) (hb : c.code = cX3_eliminate) (hml : c.maxLocals = 9) (hts : ∀ w ∈ wsX3_eliminate, w.before args s = true) (hown : s.vm.findClass RX3 = some m.cls) (hG : gK dC dI k A s) (hA : ∀ q : Nat, s.heap.size ≤ q → A q) (F : Nat) (n_t n_places n_equations : Nat) (v_divisor : Int64) (v_squareSum : Int64) (r_equations : Nat → Int64) (x1 : Int32) (x2 : Int32) (x3 : Int64) (o_r_equations : (Nat → Int64)) (RET : ∀ (pc : Nat) (H : Heap) (locs : List Loc) (ls : Array Slot) (q_r_equations : Nat → Int64), decode cX3_eliminate pc = .ok (.return_, 1) → some q_r_equations = some o_r_equations → va_P (dC, dI) vwCl (wd_4ee339 k n_t n_places n_equations v_divisor v_squareSum q_r_equations) H → va_D A (wd_4ee339 k n_t n_places n_equations v_divisor v_squareSum q_r_equations) → va_S A s.heap H locs → W p l e rm_X3_eliminate s m args below meth c H locs 0 0 Q (F0 m pc ls [])) (H : Heap) (locs : List Loc) (ls : Array Slot) (hl : lv_has ls 9 [(0, .ref n_t), (1, .int x1), (2, .int x2), (3, .long x3)]) (hP : va_P (dC, dI) vwCl (wd_4ee339 k n_t n_places n_equations v_divisor v_squareSum r_equations) H) (hD : va_D A (wd_4ee339 k n_t n_places n_equations v_divisor v_squareSum r_equations)) (hS : va_S A s.heap H locs) (hm : f_X3_eliminate F x1 x2 x3 v_divisor r_equations = some o_r_equations) : W p l e rm_X3_eliminate s m args below meth c H locs 0 0 Q (F0 m 0 ls []) := by
  have hinX3 : ∀ w ∈ u_ws RX3 TX3 4, w ∈ wsX3_eliminate := by decide +kernel
  have k0 := hts (.fieldLink RX3 19 "CaveLegs$Survey" "divisor" "J") (by decide +kernel)
  have k1 := hts (.fieldLink RX3 15 "CaveLegs$Survey" "equations" "[J") (by decide +kernel)
  have L_11 : ∀ (n11 : Nat) (r_equations : Nat → Int64) (x1 : Int32) (x2 : Int32) (x3 : Int64) (x5 : Int64) (x7 : Int32) (H : Heap) (locs : List Loc) (ls : Array Slot), lv_has ls 9 [(0, .ref n_t), (1, .int x1), (2, .int x2), (3, .long x3), (5, .long x5), (7, .int x7)] → va_P (dC, dI) vwCl (wd_4ee339 k n_t n_places n_equations v_divisor v_squareSum r_equations) H → va_D A (wd_4ee339 k n_t n_places n_equations v_divisor v_squareSum r_equations) → va_S A s.heap H locs → f_X3_eliminate_L11 F v_divisor n11 r_equations x1 x2 x3 x5 x7 = some o_r_equations → W p l e rm_X3_eliminate s m args below meth c H locs 0 0 Q (F0 m 11 ls []) := by
    intro n11
    induction n11 with
    | zero =>
      intro r_equations x1 x2 x3 x5 x7 H locs ls hl hP hD hS hm
      exact non_some hm
    | succ n11 ih11 =>
      have J_83 : ∀ (r_equations : Nat → Int64) (x1 : Int32) (x2 : Int32) (x3 : Int64) (x5 : Int64) (x7 : Int32) (H : Heap) (locs : List Loc) (ls : Array Slot), lv_has ls 9 [(0, .ref n_t), (1, .int x1), (2, .int x2), (3, .long x3), (5, .long x5), (7, .int x7)] → va_P (dC, dI) vwCl (wd_4ee339 k n_t n_places n_equations v_divisor v_squareSum r_equations) H → va_D A (wd_4ee339 k n_t n_places n_equations v_divisor v_squareSum r_equations) → va_S A s.heap H locs → f_X3_eliminate_J83 F v_divisor (f_X3_eliminate_L11 F v_divisor n11) r_equations x1 x2 x3 x5 x7 = some o_r_equations → W p l e rm_X3_eliminate s m args below meth c H locs 0 0 Q (F0 m 83 ls []) := by
        intro r_equations x1 x2 x3 x5 x7 H locs ls hl hP hD hS hm
        unfold f_X3_eliminate_J83 at hm
        obtain ⟨t1, et1⟩ : ∃ y : Int32, y = x7 + (1 : Int32) := ⟨_, rfl⟩
        replace hm := (nmd_eq et1).trans hm
        refine lv_iinc (v := t1) (lv' := [(7, .int t1), (0, .ref n_t), (1, .int x1), (2, .int x2), (3, .long x3), (5, .long x5)]) hx hb dX3_eliminate_83 hl (k := 5) rfl (by rw [et1]; rfl) (by decide) rfl (fun ls hl => ?_)
        refine lv_goto (tgt := 11) hx hb dX3_eliminate_86 (by decide) ?_
        exact ih11 _ _ _ _ _ _ _ _ _ (lv_sub hl [1, 2, 3, 4, 5, 0] rfl) hP hD hS hm
      intro r_equations x1 x2 x3 x5 x7 H locs ls hl hP hD hS hm
      replace hm : f_X3_eliminate_B11 F v_divisor (f_X3_eliminate_L11 F v_divisor n11) r_equations x1 x2 x3 x5 x7 = some o_r_equations := hm
      unfold f_X3_eliminate_B11 at hm
      refine lv_iload hx hb dX3_eliminate_11 (lv_at hl 5 rfl) ?_
      refine lv_bipush (v := (8 : Int32)) hx hb dX3_eliminate_13 (by decide) ?_
      refine lv_icmp_ge (tgt := 89) hx hb dX3_eliminate_15 (by decide) (fun c2 => ?_) (fun c2 => ?_)
      · replace hm := ifp c2 hm
        exact RET _ _ _ _ _ dX3_eliminate_89 hm hP hD hS
      · replace hm := ifn c2 hm
        refine lv_iload_n hx hb dX3_eliminate_18 rfl (lv_at hl 1 rfl) ?_
        refine lv_bipush (v := (8 : Int32)) hx hb dX3_eliminate_19 (by decide) ?_
        refine lv_imul hx hb dX3_eliminate_21 ?_
        refine lv_iload hx hb dX3_eliminate_22 (lv_at hl 5 rfl) ?_
        refine lv_iadd hx hb dX3_eliminate_24 ?_
        refine lv_topi (fun t3 et3 => ?_)
        replace hm := (nmd_eq et3).trans hm
        refine lv_istore (lv' := [(8, .int t3), (0, .ref n_t), (1, .int x1), (2, .int x2), (3, .long x3), (5, .long x5), (7, .int x7)]) hx hb dX3_eliminate_25 hl (by decide) rfl (fun ls hl => ?_)
        refine lv_aload_n hx hb dX3_eliminate_27 rfl (lv_at hl 1 rfl) ?_
        refine va_get (D := (dC, dI)) (ci := 3) (v := .long v_divisor) (C := RX3) (T := TX3) (N := 4) hx hb hts hinX3 hown hG.1 hP 0 rfl rfl 2 (by decide) k0 (fun _ h9 => h9) rfl dX3_eliminate_28 ?_
        refine lv_lconst (v := (0 : Int64)) hx hb dX3_eliminate_31 (by decide) ?_
        refine g_lcmp_eq (tgt := 83) hx hb dX3_eliminate_32 rfl dX3_eliminate_33 (by decide) (fun c4 => ?_) (fun c4 => ?_)
        · replace hm := ifp c4 hm
          exact J_83 _ _ _ _ _ _ _ _ _ (lv_sub hl [1, 2, 3, 4, 5, 6] rfl) hP hD hS hm
        · replace hm := ifn c4 hm
          refine lv_iload hx hb dX3_eliminate_36 (lv_at hl 0 rfl) ?_
          refine lv_if_lt (tgt := 83) hx hb dX3_eliminate_38 (by decide) (fun c5 => ?_) (fun c5 => ?_)
          · replace hm := ifp c5 hm
            exact J_83 _ _ _ _ _ _ _ _ _ (lv_sub hl [1, 2, 3, 4, 5, 6] rfl) hP hD hS hm
          · replace hm := ifn c5 hm
            refine lv_iload hx hb dX3_eliminate_41 (lv_at hl 0 rfl) ?_
            refine lv_aload_n hx hb dX3_eliminate_43 rfl (lv_at hl 1 rfl) ?_
            refine va_get (D := (dC, dI)) (ci := 3) (v := .ref n_equations) (C := RX3) (T := TX3) (N := 4) hx hb hts hinX3 hown hG.1 hP 0 rfl rfl 1 (by decide) k1 (fun _ h9 => h9) rfl dX3_eliminate_44 ?_
            refine va_alen (v := (40 : Int32)) hx hb hG.1 hP 1 1 rfl rfl rfl dX3_eliminate_47 ?_
            refine lv_icmp_ge (tgt := 83) hx hb dX3_eliminate_48 (by decide) (fun c6 => ?_) (fun c6 => ?_)
            · replace hm := ifp c6 hm
              exact J_83 _ _ _ _ _ _ _ _ _ (lv_sub hl [1, 2, 3, 4, 5, 6] rfl) hP hD hS hm
            · replace hm := ifn c6 hm
              refine lv_aload_n hx hb dX3_eliminate_51 rfl (lv_at hl 1 rfl) ?_
              refine va_get (D := (dC, dI)) (ci := 3) (v := .ref n_equations) (C := RX3) (T := TX3) (N := 4) hx hb hts hinX3 hown hG.1 hP 0 rfl rfl 1 (by decide) k1 (fun _ h9 => h9) rfl dX3_eliminate_52 ?_
              refine lv_iload hx hb dX3_eliminate_55 (lv_at hl 0 rfl) ?_
              refine lv_lload_n hx hb dX3_eliminate_57 rfl (lv_at hl 4 rfl) ?_
              refine lv_aload_n hx hb dX3_eliminate_58 rfl (lv_at hl 1 rfl) ?_
              refine va_get (D := (dC, dI)) (ci := 3) (v := .ref n_equations) (C := RX3) (T := TX3) (N := 4) hx hb hts hinX3 hown hG.1 hP 0 rfl rfl 1 (by decide) k1 (fun _ h9 => h9) rfl dX3_eliminate_59 ?_
              refine lv_iload hx hb dX3_eliminate_62 (lv_at hl 0 rfl) ?_
              obtain ⟨hi7, hm⟩ := chk_some hm
              refine va_lald hx hb hG.1 hP 1 1 rfl rfl hi7 dX3_eliminate_64 ?_
              refine lv_lmul hx hb dX3_eliminate_65 ?_
              refine lv_lload hx hb dX3_eliminate_66 (lv_at hl 5 rfl) ?_
              refine lv_aload_n hx hb dX3_eliminate_68 rfl (lv_at hl 1 rfl) ?_
              refine lv_iload_n hx hb dX3_eliminate_69 rfl (lv_at hl 3 rfl) ?_
              refine lv_iload hx hb dX3_eliminate_70 (lv_at hl 6 rfl) ?_
              obtain ⟨r8, e9, hm⟩ := bnd1_some hm
              refine g_calll (w2 := (wd_4ee339 k n_t n_places n_equations v_divisor v_squareSum r_equations)) (va_runV (As := [.int x2, .int x7]) (rest := [.long x5, .long (x3 * (r_equations (Int32.toNatClampNeg t3))), .int t3, .ref n_equations]) ⟨hx, hb, hml, hown, hts⟩ (m_X3_entry l dC dI k H.size n_t n_places n_equations v_divisor v_squareSum r_equations x2 x7 e9) (cwV 2 hts gX3_eliminate_X3_entry rfl rfl rfl (by decide +kernel) ⟨Nat.le_of_ble_eq_true rfl, Nat.le_of_ble_eq_true rfl⟩) (g_preV hG hP hD hS hA [0, 1] rfl (by decide) (ci := 3) (q0 := 0) rfl rfl) rfl rfl hl.1 rfl (lv_room (Nat.le_of_ble_eq_true rfl)) dX3_eliminate_72 ⟨Nat.le_of_ble_eq_true rfl, Nat.le_of_ble_eq_true rfl⟩) hP hD hS hA [0, 1] [] [0, 1] rfl rfl (by decide) (by decide) rfl (by decide) (fun H locs hP hD hS => ?_)
              refine lv_lmul hx hb dX3_eliminate_75 ?_
              refine lv_lsub hx hb dX3_eliminate_76 ?_
              refine lv_aload_n hx hb dX3_eliminate_77 rfl (lv_at hl 1 rfl) ?_
              refine va_get (D := (dC, dI)) (ci := 3) (v := .long v_divisor) (C := RX3) (T := TX3) (N := 4) hx hb hts hinX3 hown hG.1 hP 0 rfl rfl 2 (by decide) k0 (fun _ h9 => h9) rfl dX3_eliminate_78 ?_
              obtain ⟨hz10, hm⟩ := chkDL_some hm
              refine lv_ldiv hx hb dX3_eliminate_81 hz10 ?_
              refine lv_topl (fun t11 et11 => ?_)
              replace hm := (nmd_eq et11).trans hm
              obtain ⟨hi12, hm⟩ := chk_some hm
              refine va_last hx hb hG.1 hP hD hS 1 1 rfl rfl hi12 dX3_eliminate_82 (fun H locs hP hD hS => ?_)
              replace hP : va_P (dC, dI) vwCl (wd_4ee339 k n_t n_places n_equations v_divisor v_squareSum (vp_updL r_equations (Int32.toNatClampNeg t3) t11)) H := hP
              replace hD : va_D A (wd_4ee339 k n_t n_places n_equations v_divisor v_squareSum (vp_updL r_equations (Int32.toNatClampNeg t3) t11)) := hD
              exact J_83 _ _ _ _ _ _ _ _ _ (lv_sub hl [1, 2, 3, 4, 5, 6] rfl) hP hD hS hm
  unfold f_X3_eliminate at hm
  refine lv_aload_n hx hb dX3_eliminate_0 rfl (lv_at hl 0 rfl) ?_
  refine lv_iload_n hx hb dX3_eliminate_1 rfl (lv_at hl 1 rfl) ?_
  refine lv_iload_n hx hb dX3_eliminate_2 rfl (lv_at hl 2 rfl) ?_
  obtain ⟨r13, e14, hm⟩ := bnd1_some hm
  refine g_calll (w2 := (wd_4ee339 k n_t n_places n_equations v_divisor v_squareSum r_equations)) (va_runV (As := [.int x1, .int x2]) (rest := []) ⟨hx, hb, hml, hown, hts⟩ (m_X3_entry l dC dI k H.size n_t n_places n_equations v_divisor v_squareSum r_equations x1 x2 e14) (cwV 2 hts gX3_eliminate_X3_entry rfl rfl rfl (by decide +kernel) ⟨Nat.le_of_ble_eq_true rfl, Nat.le_of_ble_eq_true rfl⟩) (g_preV hG hP hD hS hA [0, 1] rfl (by decide) (ci := 3) (q0 := 0) rfl rfl) rfl rfl hl.1 rfl (lv_room (Nat.le_of_ble_eq_true rfl)) dX3_eliminate_3 ⟨Nat.le_of_ble_eq_true rfl, Nat.le_of_ble_eq_true rfl⟩) hP hD hS hA [0, 1] [] [0, 1] rfl rfl (by decide) (by decide) rfl (by decide) (fun H locs hP hD hS => ?_)
  refine lv_lstore (lv' := [(5, .long r13), (0, .ref n_t), (1, .int x1), (2, .int x2), (3, .long x3)]) hx hb dX3_eliminate_6 hl (by decide) rfl (fun ls hl => ?_)
  refine lv_iconst (v := (0 : Int32)) hx hb dX3_eliminate_8 (by decide) ?_
  refine lv_istore (lv' := [(7, .int (0 : Int32)), (5, .long r13), (0, .ref n_t), (1, .int x1), (2, .int x2), (3, .long x3)]) hx hb dX3_eliminate_9 hl (by decide) rfl (fun ls hl => ?_)
  exact L_11 F _ _ _ _ _ _ _ _ _ (lv_sub hl [2, 3, 4, 5, 1, 0] rfl) hP hD hS hm
set_option maxRecDepth 100000 in
theorem m_X3_eliminate (l : Launch) (dC : Nat → ClassId) (dI : Nat → Nat → Nat) (k : Nat → ClassId) (F : Nat) (sz : Nat) (n_t n_places n_equations : Nat) (v_divisor : Int64) (v_squareSum : Int64) (r_equations : Nat → Int64) (x1 : Int32) (x2 : Int32) (x3 : Int64) {o_r_equations : (Nat → Int64)} (hm : f_X3_eliminate F x1 x2 x3 v_divisor r_equations = some o_r_equations) : Met l yX3_eliminate wsX3_eliminate rm_X3_eliminate (gPre dC dI k [.ref n_t, .int x1, .int x2, .long x3] sz (wd_4ee339 k n_t n_places n_equations v_divisor v_squareSum r_equations)) (gQV dC dI (va_A (wd_4ee339 k n_t n_places n_equations v_divisor v_squareSum r_equations) sz) (wd_4ee339 k n_t n_places n_equations v_divisor v_squareSum o_r_equations)) 0 0 (va_A (wd_4ee339 k n_t n_places n_equations v_divisor v_squareSum r_equations) sz) := by
  refine g_entry (cc := cX3_eliminate) (maxL := 9) (ret := none) (lv := [(0, .ref n_t), (1, .int x1), (2, .int x2), (3, .long x3)]) (by decide +kernel) rfl (Nat.le_of_ble_eq_true rfl) rfl (fun p e s m below meth c ls hx hb hr hml hts hown hlk hnm hsz hG hA hP hD hS hl => ?_)
  exact k_X3_eliminate hx hb hml hts hown hG hA F n_t n_places n_equations v_divisor v_squareSum r_equations x1 x2 x3 o_r_equations (fun pc H locs ls q_r_equations hd ho hP hD hS => by cases ho; exact g_vret hx hb hr hlk hP hD hS hd) s.heap [] ls hl hP hD hS hm
end
section
set_option maxHeartbeats 4000000 in
set_option maxRecDepth 100000 in
theorem k_X3_solve {p : Program} {l : Launch} {e : Env} {s : State} {m : MethodId} {args : Array Value} {below : List Frame} {meth : Method} {c : Code} {A : Nat → Prop} {Q : State → Prop} {dC : Nat → ClassId} {dI : Nat → Nat → Nat} {k : Nat → ClassId} (hx : p.tables.exec = Jvm.exec) (hb : c.code = cX3_solve) (hml : c.maxLocals = 5) (hts : ∀ w ∈ wsX3_solve, w.before args s = true) (hown : s.vm.findClass RX3 = some m.cls) (hG : gK dC dI k A s) (hA : ∀ q : Nat, s.heap.size ≤ q → A q) (F : Nat) (n_t n_places n_equations : Nat) (v_divisor : Int64) (v_squareSum : Int64) (r_equations : Nat → Int64) (o_v_divisor : (Int64)) (o_r_equations : (Nat → Int64)) (RET : ∀ (pc : Nat) (H : Heap) (locs : List Loc) (ls : Array Slot) (q_v_divisor : Int64) (q_r_equations : Nat → Int64), decode cX3_solve pc = .ok (.return_, 1) → some (q_v_divisor, q_r_equations) = some (o_v_divisor, o_r_equations) → va_P (dC, dI) vwCl (wd_4ee339 k n_t n_places n_equations q_v_divisor v_squareSum q_r_equations) H → va_D A (wd_4ee339 k n_t n_places n_equations q_v_divisor v_squareSum q_r_equations) → va_S A s.heap H locs → W p l e rm_X3_solve s m args below meth c H locs 0 0 Q (F0 m pc ls [])) (H : Heap) (locs : List Loc) (ls : Array Slot) (hl : lv_has ls 5 [(0, .ref n_t)]) (hP : va_P (dC, dI) vwCl (wd_4ee339 k n_t n_places n_equations v_divisor v_squareSum r_equations) H) (hD : va_D A (wd_4ee339 k n_t n_places n_equations v_divisor v_squareSum r_equations)) (hS : va_S A s.heap H locs) (hm : f_X3_solve F v_divisor r_equations = some (o_v_divisor, o_r_equations)) : W p l e rm_X3_solve s m args below meth c H locs 0 0 Q (F0 m 0 ls []) := by
  have hinX3 : ∀ w ∈ u_ws RX3 TX3 4, w ∈ wsX3_solve := by decide +kernel
  have k0 := hts (.fieldLink RX3 19 "CaveLegs$Survey" "divisor" "J") (by decide +kernel)
  have L_7 : ∀ (n7 : Nat) (v_divisor : Int64) (r_equations : Nat → Int64) (x1 : Int32) (H : Heap) (locs : List Loc) (ls : Array Slot), lv_has ls 5 [(0, .ref n_t), (1, .int x1)] → va_P (dC, dI) vwCl (wd_4ee339 k n_t n_places n_equations v_divisor v_squareSum r_equations) H → va_D A (wd_4ee339 k n_t n_places n_equations v_divisor v_squareSum r_equations) → va_S A s.heap H locs → f_X3_solve_L7 F n7 v_divisor r_equations x1 = some (o_v_divisor, o_r_equations) → W p l e rm_X3_solve s m args below meth c H locs 0 0 Q (F0 m 7 ls []) := by
    intro n7
    induction n7 with
    | zero =>
      intro v_divisor r_equations x1 H locs ls hl hP hD hS hm
      exact non_some hm
    | succ n7 ih7 =>
      have L_22 : ∀ (n22 : Nat) (v_divisor : Int64) (r_equations : Nat → Int64) (x1 : Int32) (x2 : Int64) (x4 : Int32) (H : Heap) (locs : List Loc) (ls : Array Slot), lv_has ls 5 [(0, .ref n_t), (1, .int x1), (2, .long x2), (4, .int x4)] → va_P (dC, dI) vwCl (wd_4ee339 k n_t n_places n_equations v_divisor v_squareSum r_equations) H → va_D A (wd_4ee339 k n_t n_places n_equations v_divisor v_squareSum r_equations) → va_S A s.heap H locs → f_X3_solve_L22 F (f_X3_solve_L7 F n7) n22 v_divisor r_equations x1 x2 x4 = some (o_v_divisor, o_r_equations) → W p l e rm_X3_solve s m args below meth c H locs 0 0 Q (F0 m 22 ls []) := by
        intro n22
        induction n22 with
        | zero =>
          intro v_divisor r_equations x1 x2 x4 H locs ls hl hP hD hS hm
          exact non_some hm
        | succ n22 ih22 =>
          have J_42 : ∀ (v_divisor : Int64) (r_equations : Nat → Int64) (x1 : Int32) (x2 : Int64) (x4 : Int32) (H : Heap) (locs : List Loc) (ls : Array Slot), lv_has ls 5 [(0, .ref n_t), (1, .int x1), (2, .long x2), (4, .int x4)] → va_P (dC, dI) vwCl (wd_4ee339 k n_t n_places n_equations v_divisor v_squareSum r_equations) H → va_D A (wd_4ee339 k n_t n_places n_equations v_divisor v_squareSum r_equations) → va_S A s.heap H locs → f_X3_solve_J42 F (f_X3_solve_L7 F n7) (f_X3_solve_L22 F (f_X3_solve_L7 F n7) n22) v_divisor r_equations x1 x2 x4 = some (o_v_divisor, o_r_equations) → W p l e rm_X3_solve s m args below meth c H locs 0 0 Q (F0 m 42 ls []) := by
            intro v_divisor r_equations x1 x2 x4 H locs ls hl hP hD hS hm
            unfold f_X3_solve_J42 at hm
            obtain ⟨t1, et1⟩ : ∃ y : Int32, y = x4 + (1 : Int32) := ⟨_, rfl⟩
            replace hm := (nmd_eq et1).trans hm
            refine lv_iinc (v := t1) (lv' := [(4, .int t1), (0, .ref n_t), (1, .int x1), (2, .long x2)]) hx hb dX3_solve_42 hl (k := 3) rfl (by rw [et1]; rfl) (by decide) rfl (fun ls hl => ?_)
            refine lv_goto (tgt := 22) hx hb dX3_solve_45 (by decide) ?_
            exact ih22 _ _ _ _ _ _ _ _ (lv_sub hl [1, 2, 3, 0] rfl) hP hD hS hm
          intro v_divisor r_equations x1 x2 x4 H locs ls hl hP hD hS hm
          replace hm : f_X3_solve_B22 F (f_X3_solve_L7 F n7) (f_X3_solve_L22 F (f_X3_solve_L7 F n7) n22) v_divisor r_equations x1 x2 x4 = some (o_v_divisor, o_r_equations) := hm
          unfold f_X3_solve_B22 at hm
          refine lv_iload hx hb dX3_solve_22 (lv_at hl 3 rfl) ?_
          refine lv_iconst (v := (5 : Int32)) hx hb dX3_solve_24 (by decide) ?_
          refine lv_icmp_ge (tgt := 48) hx hb dX3_solve_25 (by decide) (fun c2 => ?_) (fun c2 => ?_)
          · replace hm := ifp c2 hm
            refine lv_aload_n hx hb dX3_solve_48 rfl (lv_at hl 0 rfl) ?_
            refine lv_lload_n hx hb dX3_solve_49 rfl (lv_at hl 2 rfl) ?_
            refine va_put (D := (dC, dI)) (ci := 3) (v := .long x2) (ty := .long) (C := RX3) (T := TX3) (N := 4) hx hb hts hinX3 tyX3 tyX3_ok nmX3 hown hG.1 hP hD hS 0 rfl rfl 2 (by decide) k0 (fun _ h9 => h9) rfl (by decide +kernel) rfl rfl (Nat.le_of_ble_eq_true rfl) dX3_solve_50 (fun H locs hP hD hS => ?_)
            replace hP : va_P (dC, dI) vwCl (wd_4ee339 k n_t n_places n_equations x2 v_squareSum r_equations) H := hP
            replace hD : va_D A (wd_4ee339 k n_t n_places n_equations x2 v_squareSum r_equations) := hD
            obtain ⟨t3, et3⟩ : ∃ y : Int32, y = x1 + (1 : Int32) := ⟨_, rfl⟩
            replace hm := (nmd_eq et3).trans hm
            refine lv_iinc (v := t3) (lv' := [(1, .int t3), (0, .ref n_t), (2, .long x2), (4, .int x4)]) hx hb dX3_solve_53 hl (k := 1) rfl (by rw [et3]; rfl) (by decide) rfl (fun ls hl => ?_)
            refine lv_goto (tgt := 7) hx hb dX3_solve_56 (by decide) ?_
            exact ih7 _ _ _ _ _ _ (lv_sub hl [1, 0] rfl) hP hD hS hm
          · replace hm := ifn c2 hm
            refine lv_iload hx hb dX3_solve_28 (lv_at hl 3 rfl) ?_
            refine lv_iload_n hx hb dX3_solve_30 rfl (lv_at hl 1 rfl) ?_
            refine lv_icmp_eq (tgt := 42) hx hb dX3_solve_31 (by decide) (fun c4 => ?_) (fun c4 => ?_)
            · replace hm := ifp c4 hm
              exact J_42 _ _ _ _ _ _ _ _ (lv_sub hl [0, 1, 2, 3] rfl) hP hD hS hm
            · replace hm := ifn c4 hm
              refine lv_aload_n hx hb dX3_solve_34 rfl (lv_at hl 0 rfl) ?_
              refine lv_iload hx hb dX3_solve_35 (lv_at hl 3 rfl) ?_
              refine lv_iload_n hx hb dX3_solve_37 rfl (lv_at hl 1 rfl) ?_
              refine lv_lload_n hx hb dX3_solve_38 rfl (lv_at hl 2 rfl) ?_
              obtain ⟨w5, e6, hm⟩ := bnd1_some hm
              refine g_callv (w2 := (wd_4ee339 k n_t n_places n_equations v_divisor v_squareSum w5)) (va_runV (As := [.int x4, .int x1, .long x2]) (rest := []) ⟨hx, hb, hml, hown, hts⟩ (m_X3_eliminate l dC dI k F H.size n_t n_places n_equations v_divisor v_squareSum r_equations x4 x1 x2 e6) (cwV 3 hts gX3_solve_X3_eliminate rfl rfl rfl (by decide +kernel) ⟨Nat.le_of_ble_eq_true rfl, Nat.le_of_ble_eq_true rfl⟩) (g_preV hG hP hD hS hA [0, 1] rfl (by decide) (ci := 3) (q0 := 0) rfl rfl) rfl rfl hl.1 rfl (lv_room (Nat.le_of_ble_eq_true rfl)) dX3_solve_39 ⟨Nat.le_of_ble_eq_true rfl, Nat.le_of_ble_eq_true rfl⟩) hP hD hS hA [0, 1] [] [0, 1] rfl rfl (by decide) (by decide) rfl (by decide) (fun H locs hP hD hS => ?_)
              exact J_42 _ _ _ _ _ _ _ _ (lv_sub hl [0, 1, 2, 3] rfl) hP hD hS hm
      intro v_divisor r_equations x1 H locs ls hl hP hD hS hm
      replace hm : f_X3_solve_B7 F (f_X3_solve_L7 F n7) v_divisor r_equations x1 = some (o_v_divisor, o_r_equations) := hm
      unfold f_X3_solve_B7 at hm
      refine lv_iload_n hx hb dX3_solve_7 rfl (lv_at hl 1 rfl) ?_
      refine lv_iconst (v := (5 : Int32)) hx hb dX3_solve_8 (by decide) ?_
      refine lv_icmp_ge (tgt := 59) hx hb dX3_solve_9 (by decide) (fun c7 => ?_) (fun c7 => ?_)
      · replace hm := ifp c7 hm
        exact RET _ _ _ _ _ _ dX3_solve_59 hm hP hD hS
      · replace hm := ifn c7 hm
        refine lv_aload_n hx hb dX3_solve_12 rfl (lv_at hl 0 rfl) ?_
        refine lv_iload_n hx hb dX3_solve_13 rfl (lv_at hl 1 rfl) ?_
        refine lv_iload_n hx hb dX3_solve_14 rfl (lv_at hl 1 rfl) ?_
        obtain ⟨r8, e9, hm⟩ := bnd1_some hm
        refine g_calll (w2 := (wd_4ee339 k n_t n_places n_equations v_divisor v_squareSum r_equations)) (va_runV (As := [.int x1, .int x1]) (rest := []) ⟨hx, hb, hml, hown, hts⟩ (m_X3_entry l dC dI k H.size n_t n_places n_equations v_divisor v_squareSum r_equations x1 x1 e9) (cwV 2 hts gX3_solve_X3_entry rfl rfl rfl (by decide +kernel) ⟨Nat.le_of_ble_eq_true rfl, Nat.le_of_ble_eq_true rfl⟩) (g_preV hG hP hD hS hA [0, 1] rfl (by decide) (ci := 3) (q0 := 0) rfl rfl) rfl rfl hl.1 rfl (lv_room (Nat.le_of_ble_eq_true rfl)) dX3_solve_15 ⟨Nat.le_of_ble_eq_true rfl, Nat.le_of_ble_eq_true rfl⟩) hP hD hS hA [0, 1] [] [0, 1] rfl rfl (by decide) (by decide) rfl (by decide) (fun H locs hP hD hS => ?_)
        refine lv_lstore_n (lv' := [(2, .long r8), (0, .ref n_t), (1, .int x1)]) hx hb dX3_solve_18 rfl hl (by decide) rfl (fun ls hl => ?_)
        refine lv_iconst (v := (0 : Int32)) hx hb dX3_solve_19 (by decide) ?_
        refine lv_istore (lv' := [(4, .int (0 : Int32)), (2, .long r8), (0, .ref n_t), (1, .int x1)]) hx hb dX3_solve_20 hl (by decide) rfl (fun ls hl => ?_)
        exact L_22 F _ _ _ _ _ _ _ _ (lv_sub hl [2, 3, 1, 0] rfl) hP hD hS hm
  unfold f_X3_solve at hm
  refine lv_aload_n hx hb dX3_solve_0 rfl (lv_at hl 0 rfl) ?_
  refine lv_lconst (v := (1 : Int64)) hx hb dX3_solve_1 (by decide) ?_
  refine va_put (D := (dC, dI)) (ci := 3) (v := .long (1 : Int64)) (ty := .long) (C := RX3) (T := TX3) (N := 4) hx hb hts hinX3 tyX3 tyX3_ok nmX3 hown hG.1 hP hD hS 0 rfl rfl 2 (by decide) k0 (fun _ h9 => h9) rfl (by decide +kernel) rfl rfl (Nat.le_of_ble_eq_true rfl) dX3_solve_2 (fun H locs hP hD hS => ?_)
  replace hP : va_P (dC, dI) vwCl (wd_4ee339 k n_t n_places n_equations (1 : Int64) v_squareSum r_equations) H := hP
  replace hD : va_D A (wd_4ee339 k n_t n_places n_equations (1 : Int64) v_squareSum r_equations) := hD
  refine lv_iconst (v := (0 : Int32)) hx hb dX3_solve_5 (by decide) ?_
  refine lv_istore_n (lv' := [(1, .int (0 : Int32)), (0, .ref n_t)]) hx hb dX3_solve_6 rfl hl (by decide) rfl (fun ls hl => ?_)
  exact L_7 F _ _ _ _ _ _ (lv_sub hl [1, 0] rfl) hP hD hS hm
set_option maxRecDepth 100000 in
theorem m_X3_solve (l : Launch) (dC : Nat → ClassId) (dI : Nat → Nat → Nat) (k : Nat → ClassId) (F : Nat) (sz : Nat) (n_t n_places n_equations : Nat) (v_divisor : Int64) (v_squareSum : Int64) (r_equations : Nat → Int64) {o_v_divisor : (Int64)} {o_r_equations : (Nat → Int64)} (hm : f_X3_solve F v_divisor r_equations = some (o_v_divisor, o_r_equations)) : Met l yX3_solve wsX3_solve rm_X3_solve (gPre dC dI k [.ref n_t] sz (wd_4ee339 k n_t n_places n_equations v_divisor v_squareSum r_equations)) (gQV dC dI (va_A (wd_4ee339 k n_t n_places n_equations v_divisor v_squareSum r_equations) sz) (wd_4ee339 k n_t n_places n_equations o_v_divisor v_squareSum o_r_equations)) 0 0 (va_A (wd_4ee339 k n_t n_places n_equations v_divisor v_squareSum r_equations) sz) := by
  refine g_entry (cc := cX3_solve) (maxL := 5) (ret := none) (lv := [(0, .ref n_t)]) (by decide +kernel) rfl (Nat.le_of_ble_eq_true rfl) rfl (fun p e s m below meth c ls hx hb hr hml hts hown hlk hnm hsz hG hA hP hD hS hl => ?_)
  exact k_X3_solve hx hb hml hts hown hG hA F n_t n_places n_equations v_divisor v_squareSum r_equations o_v_divisor o_r_equations (fun pc H locs ls q_v_divisor q_r_equations hd ho hP hD hS => by cases ho; exact g_vret hx hb hr hlk hP hD hS hd) s.heap [] ls hl hP hD hS hm
end
section
set_option maxHeartbeats 4000000 in
set_option maxRecDepth 100000 in
theorem k_X3_coordinate {p : Program} {l : Launch} {e : Env} {s : State} {m : MethodId} {args : Array Value} {below : List Frame} {meth : Method} {c : Code} {A : Nat → Prop} {Q : State → Prop} {dC : Nat → ClassId} {dI : Nat → Nat → Nat} {k : Nat → ClassId} (hx : p.tables.exec = Jvm.exec) (hb : c.code = cX3_coordinate) (hml : c.maxLocals = 3) (hts : ∀ w ∈ wsX3_coordinate, w.before args s = true) (hown : s.vm.findClass RX3 = some m.cls) (hG : gK dC dI k A s) (hA : ∀ q : Nat, s.heap.size ≤ q → A q) (n_t n_places n_equations : Nat) (v_divisor : Int64) (v_squareSum : Int64) (r_equations : Nat → Int64) (x1 : Int32) (x2 : Int32) (o_r : Int64) (RET : ∀ (pc : Nat) (H : Heap) (locs : List Loc) (ls : Array Slot) (v : Int64), decode cX3_coordinate pc = .ok (.lreturn, 1) → some v = some o_r → va_P (dC, dI) vwCl (wd_4ee339 k n_t n_places n_equations v_divisor v_squareSum r_equations) H → va_D A (wd_4ee339 k n_t n_places n_equations v_divisor v_squareSum r_equations) → va_S A s.heap H locs → W p l e rm_X3_coordinate s m args below meth c H locs 0 0 Q (F0 m pc ls [.long v])) (H : Heap) (locs : List Loc) (ls : Array Slot) (hl : lv_has ls 3 [(0, .ref n_t), (1, .int x1), (2, .int x2)]) (hP : va_P (dC, dI) vwCl (wd_4ee339 k n_t n_places n_equations v_divisor v_squareSum r_equations) H) (hD : va_D A (wd_4ee339 k n_t n_places n_equations v_divisor v_squareSum r_equations)) (hS : va_S A s.heap H locs) (hm : f_X3_coordinate x1 x2 r_equations = some o_r) : W p l e rm_X3_coordinate s m args below meth c H locs 0 0 Q (F0 m 0 ls []) := by
  unfold f_X3_coordinate at hm
  refine lv_aload_n hx hb dX3_coordinate_0 rfl (lv_at hl 0 rfl) ?_
  refine lv_iload_n hx hb dX3_coordinate_1 rfl (lv_at hl 1 rfl) ?_
  refine lv_iconst (v := (1 : Int32)) hx hb dX3_coordinate_2 (by decide) ?_
  refine lv_isub hx hb dX3_coordinate_3 ?_
  refine lv_iconst (v := (5 : Int32)) hx hb dX3_coordinate_4 (by decide) ?_
  refine lv_iload_n hx hb dX3_coordinate_5 rfl (lv_at hl 2 rfl) ?_
  refine lv_iadd hx hb dX3_coordinate_6 ?_
  obtain ⟨r1, e2, hm⟩ := bnd1_some hm
  refine g_calll (w2 := (wd_4ee339 k n_t n_places n_equations v_divisor v_squareSum r_equations)) (va_runV (As := [.int (x1 - (1 : Int32)), .int ((5 : Int32) + x2)]) (rest := []) ⟨hx, hb, hml, hown, hts⟩ (m_X3_entry l dC dI k H.size n_t n_places n_equations v_divisor v_squareSum r_equations (x1 - (1 : Int32)) ((5 : Int32) + x2) e2) (cwV 2 hts gX3_coordinate_X3_entry rfl rfl rfl (by decide +kernel) ⟨Nat.le_of_ble_eq_true rfl, Nat.le_of_ble_eq_true rfl⟩) (g_preV hG hP hD hS hA [0, 1] rfl (by decide) (ci := 3) (q0 := 0) rfl rfl) rfl rfl hl.1 rfl (lv_room (Nat.le_of_ble_eq_true rfl)) dX3_coordinate_7 ⟨Nat.le_of_ble_eq_true rfl, Nat.le_of_ble_eq_true rfl⟩) hP hD hS hA [0, 1] [] [0, 1] rfl rfl (by decide) (by decide) rfl (by decide) (fun H locs hP hD hS => ?_)
  exact RET _ _ _ _ _ dX3_coordinate_10 hm hP hD hS
set_option maxRecDepth 100000 in
theorem m_X3_coordinate (l : Launch) (dC : Nat → ClassId) (dI : Nat → Nat → Nat) (k : Nat → ClassId) (sz : Nat) (n_t n_places n_equations : Nat) (v_divisor : Int64) (v_squareSum : Int64) (r_equations : Nat → Int64) (x1 : Int32) (x2 : Int32) {o_r : Int64} (hm : f_X3_coordinate x1 x2 r_equations = some o_r) : Met l yX3_coordinate wsX3_coordinate rm_X3_coordinate (gPre dC dI k [.ref n_t, .int x1, .int x2] sz (wd_4ee339 k n_t n_places n_equations v_divisor v_squareSum r_equations)) (gQL dC dI (va_A (wd_4ee339 k n_t n_places n_equations v_divisor v_squareSum r_equations) sz) o_r (wd_4ee339 k n_t n_places n_equations v_divisor v_squareSum r_equations)) 0 0 (va_A (wd_4ee339 k n_t n_places n_equations v_divisor v_squareSum r_equations) sz) := by
  refine g_entry (cc := cX3_coordinate) (maxL := 3) (ret := (some .long)) (lv := [(0, .ref n_t), (1, .int x1), (2, .int x2)]) (by decide +kernel) rfl (Nat.le_of_ble_eq_true rfl) rfl (fun p e s m below meth c ls hx hb hr hml hts hown hlk hnm hsz hG hA hP hD hS hl => ?_)
  exact k_X3_coordinate hx hb hml hts hown hG hA n_t n_places n_equations v_divisor v_squareSum r_equations x1 x2 o_r (fun pc H locs ls v hd ho hP hD hS => by cases ho; exact g_lret hx hb hr hlk hP hD hS hd) s.heap [] ls hl hP hD hS hm
end
section
set_option maxHeartbeats 4000000 in
set_option maxRecDepth 100000 in
theorem k_X3_residual {p : Program} {l : Launch} {e : Env} {s : State} {m : MethodId} {args : Array Value} {below : List Frame} {meth : Method} {c : Code} {A : Nat → Prop} {Q : State → Prop} {dC : Nat → ClassId} {dI : Nat → Nat → Nat} {k : Nat → ClassId} (hx : p.tables.exec = Jvm.exec) (hb : c.code = cX3_residual) (hml : c.maxLocals = 6) (hts : ∀ w ∈ wsX3_residual, w.before args s = true) (hown : s.vm.findClass RX3 = some m.cls) (hG : gK dC dI k A s) (hA : ∀ q : Nat, s.heap.size ≤ q → A q) (n_t n_p1 n_places n_equations n_p1_rows : Nat) (v_divisor : Int64) (v_squareSum : Int64) (v_p1_size : Int32) (v_p1_stations : Int32) (r_equations : Nat → Int64) (r_p1_rows : Nat → Int32) (x2 : Int32) (x3 : Int32) (o_r : Int64) (RET : ∀ (pc : Nat) (H : Heap) (locs : List Loc) (ls : Array Slot) (v : Int64), decode cX3_residual pc = .ok (.lreturn, 1) → some v = some o_r → va_P (dC, dI) vwCl (wd_9ad03a k n_t n_p1 n_places n_equations n_p1_rows v_divisor v_squareSum v_p1_size v_p1_stations r_equations r_p1_rows) H → va_D A (wd_9ad03a k n_t n_p1 n_places n_equations n_p1_rows v_divisor v_squareSum v_p1_size v_p1_stations r_equations r_p1_rows) → va_S A s.heap H locs → W p l e rm_X3_residual s m args below meth c H locs 0 0 Q (F0 m pc ls [.long v])) (H : Heap) (locs : List Loc) (ls : Array Slot) (hl : lv_has ls 6 [(0, .ref n_t), (1, .ref n_p1), (2, .int x2), (3, .int x3)]) (hP : va_P (dC, dI) vwCl (wd_9ad03a k n_t n_p1 n_places n_equations n_p1_rows v_divisor v_squareSum v_p1_size v_p1_stations r_equations r_p1_rows) H) (hD : va_D A (wd_9ad03a k n_t n_p1 n_places n_equations n_p1_rows v_divisor v_squareSum v_p1_size v_p1_stations r_equations r_p1_rows)) (hS : va_S A s.heap H locs) (hm : f_X3_residual x2 x3 v_divisor r_equations r_p1_rows = some o_r) : W p l e rm_X3_residual s m args below meth c H locs 0 0 Q (F0 m 0 ls []) := by
  have hinX3 : ∀ w ∈ u_ws RX3 TX3 4, w ∈ wsX3_residual := by decide +kernel
  have k0 := hts (.fieldLink RX3 19 "CaveLegs$Survey" "divisor" "J") (by decide +kernel)
  unfold f_X3_residual at hm
  refine lv_aload_n hx hb dX3_residual_0 rfl (lv_at hl 0 rfl) ?_
  refine lv_aload_n hx hb dX3_residual_1 rfl (lv_at hl 1 rfl) ?_
  refine lv_iload_n hx hb dX3_residual_2 rfl (lv_at hl 2 rfl) ?_
  refine lv_iconst (v := (5 : Int32)) hx hb dX3_residual_3 (by decide) ?_
  obtain ⟨r1, e2, hm⟩ := bnd1_some hm
  refine g_calli (w2 := (wd_9ad03a k n_t n_p1 n_places n_equations n_p1_rows v_divisor v_squareSum v_p1_size v_p1_stations r_equations r_p1_rows)) (va_runV (As := [.int x2, .int (5 : Int32)]) (rest := [.ref n_t]) ⟨hx, hb, hml, hown, hts⟩ (m_X0_get l dC dI k H.size n_p1 n_p1_rows v_p1_size v_p1_stations r_p1_rows x2 (5 : Int32) e2) (cwV 2 hts gX3_residual_X0_get rfl rfl rfl (by decide +kernel) ⟨Nat.le_of_ble_eq_true rfl, Nat.le_of_ble_eq_true rfl⟩) (g_preV hG hP hD hS hA [2, 3] rfl (by decide) (ci := 0) (q0 := 2) rfl rfl) rfl rfl hl.1 rfl (lv_room (Nat.le_of_ble_eq_true rfl)) dX3_residual_4 ⟨Nat.le_of_ble_eq_true rfl, Nat.le_of_ble_eq_true rfl⟩) hP hD hS hA [2, 3] [0, 1] [0, 1, 2, 3] rfl rfl (by decide) (by decide) rfl (by decide) (fun H locs hP hD hS => ?_)
  refine lv_iload_n hx hb dX3_residual_7 rfl (lv_at hl 3 rfl) ?_
  obtain ⟨r3, e4, hm⟩ := bnd1_some hm
  refine g_calll (w2 := (wd_9ad03a k n_t n_p1 n_places n_equations n_p1_rows v_divisor v_squareSum v_p1_size v_p1_stations r_equations r_p1_rows)) (va_runV (As := [.int r1, .int x3]) (rest := []) ⟨hx, hb, hml, hown, hts⟩ (m_X3_coordinate l dC dI k H.size n_t n_places n_equations v_divisor v_squareSum r_equations r1 x3 e4) (cwV 2 hts gX3_residual_X3_coordinate rfl rfl rfl (by decide +kernel) ⟨Nat.le_of_ble_eq_true rfl, Nat.le_of_ble_eq_true rfl⟩) (g_preV hG hP hD hS hA [0, 1] rfl (by decide) (ci := 3) (q0 := 0) rfl rfl) rfl rfl hl.1 rfl (lv_room (Nat.le_of_ble_eq_true rfl)) dX3_residual_8 ⟨Nat.le_of_ble_eq_true rfl, Nat.le_of_ble_eq_true rfl⟩) hP hD hS hA [0, 1] [2, 3] [2, 3, 0, 1] rfl rfl (by decide) (by decide) rfl (by decide) (fun H locs hP hD hS => ?_)
  refine lv_aload_n hx hb dX3_residual_11 rfl (lv_at hl 0 rfl) ?_
  refine lv_aload_n hx hb dX3_residual_12 rfl (lv_at hl 1 rfl) ?_
  refine lv_iload_n hx hb dX3_residual_13 rfl (lv_at hl 2 rfl) ?_
  refine lv_iconst (v := (4 : Int32)) hx hb dX3_residual_14 (by decide) ?_
  obtain ⟨r5, e6, hm⟩ := bnd1_some hm
  refine g_calli (w2 := (wd_9ad03a k n_t n_p1 n_places n_equations n_p1_rows v_divisor v_squareSum v_p1_size v_p1_stations r_equations r_p1_rows)) (va_runV (As := [.int x2, .int (4 : Int32)]) (rest := [.ref n_t, .long r3]) ⟨hx, hb, hml, hown, hts⟩ (m_X0_get l dC dI k H.size n_p1 n_p1_rows v_p1_size v_p1_stations r_p1_rows x2 (4 : Int32) e6) (cwV 2 hts gX3_residual_X0_get rfl rfl rfl (by decide +kernel) ⟨Nat.le_of_ble_eq_true rfl, Nat.le_of_ble_eq_true rfl⟩) (g_preV hG hP hD hS hA [2, 3] rfl (by decide) (ci := 0) (q0 := 2) rfl rfl) rfl rfl hl.1 rfl (lv_room (Nat.le_of_ble_eq_true rfl)) dX3_residual_15 ⟨Nat.le_of_ble_eq_true rfl, Nat.le_of_ble_eq_true rfl⟩) hP hD hS hA [2, 3] [0, 1] [0, 1, 2, 3] rfl rfl (by decide) (by decide) rfl (by decide) (fun H locs hP hD hS => ?_)
  refine lv_iload_n hx hb dX3_residual_18 rfl (lv_at hl 3 rfl) ?_
  obtain ⟨r7, e8, hm⟩ := bnd1_some hm
  refine g_calll (w2 := (wd_9ad03a k n_t n_p1 n_places n_equations n_p1_rows v_divisor v_squareSum v_p1_size v_p1_stations r_equations r_p1_rows)) (va_runV (As := [.int r5, .int x3]) (rest := [.long r3]) ⟨hx, hb, hml, hown, hts⟩ (m_X3_coordinate l dC dI k H.size n_t n_places n_equations v_divisor v_squareSum r_equations r5 x3 e8) (cwV 2 hts gX3_residual_X3_coordinate rfl rfl rfl (by decide +kernel) ⟨Nat.le_of_ble_eq_true rfl, Nat.le_of_ble_eq_true rfl⟩) (g_preV hG hP hD hS hA [0, 1] rfl (by decide) (ci := 3) (q0 := 0) rfl rfl) rfl rfl hl.1 rfl (lv_room (Nat.le_of_ble_eq_true rfl)) dX3_residual_19 ⟨Nat.le_of_ble_eq_true rfl, Nat.le_of_ble_eq_true rfl⟩) hP hD hS hA [0, 1] [2, 3] [2, 3, 0, 1] rfl rfl (by decide) (by decide) rfl (by decide) (fun H locs hP hD hS => ?_)
  refine lv_lsub hx hb dX3_residual_22 ?_
  refine lv_topl (fun t9 et9 => ?_)
  replace hm := (nmd_eq et9).trans hm
  refine lv_lstore (lv' := [(4, .long t9), (0, .ref n_t), (1, .ref n_p1), (2, .int x2), (3, .int x3)]) hx hb dX3_residual_23 hl (by decide) rfl (fun ls hl => ?_)
  refine lv_aload_n hx hb dX3_residual_25 rfl (lv_at hl 2 rfl) ?_
  refine lv_iload_n hx hb dX3_residual_26 rfl (lv_at hl 3 rfl) ?_
  refine lv_iload_n hx hb dX3_residual_27 rfl (lv_at hl 4 rfl) ?_
  obtain ⟨r10, e11, hm⟩ := bnd1_some hm
  refine g_calli (w2 := (wd_9ad03a k n_t n_p1 n_places n_equations n_p1_rows v_divisor v_squareSum v_p1_size v_p1_stations r_equations r_p1_rows)) (va_runV (As := [.int x2, .int x3]) (rest := []) ⟨hx, hb, hml, hown, hts⟩ (m_X0_vector l dC dI k H.size n_p1 n_p1_rows v_p1_size v_p1_stations r_p1_rows x2 x3 e11) (cwV 2 hts gX3_residual_X0_vector rfl rfl rfl (by decide +kernel) ⟨Nat.le_of_ble_eq_true rfl, Nat.le_of_ble_eq_true rfl⟩) (g_preV hG hP hD hS hA [2, 3] rfl (by decide) (ci := 0) (q0 := 2) rfl rfl) rfl rfl hl.1 rfl (lv_room (Nat.le_of_ble_eq_true rfl)) dX3_residual_28 ⟨Nat.le_of_ble_eq_true rfl, Nat.le_of_ble_eq_true rfl⟩) hP hD hS hA [2, 3] [0, 1] [0, 1, 2, 3] rfl rfl (by decide) (by decide) rfl (by decide) (fun H locs hP hD hS => ?_)
  refine g_i2l hx hb dX3_residual_31 ?_
  refine lv_aload_n hx hb dX3_residual_32 rfl (lv_at hl 1 rfl) ?_
  refine va_get (D := (dC, dI)) (ci := 3) (v := .long v_divisor) (C := RX3) (T := TX3) (N := 4) hx hb hts hinX3 hown hG.1 hP 0 rfl rfl 2 (by decide) k0 (fun _ h9 => h9) rfl dX3_residual_33 ?_
  refine lv_lmul hx hb dX3_residual_36 ?_
  refine lv_lload hx hb dX3_residual_37 (lv_at hl 0 rfl) ?_
  refine lv_lsub hx hb dX3_residual_39 ?_
  exact RET _ _ _ _ _ dX3_residual_40 hm hP hD hS
set_option maxRecDepth 100000 in
theorem m_X3_residual (l : Launch) (dC : Nat → ClassId) (dI : Nat → Nat → Nat) (k : Nat → ClassId) (sz : Nat) (n_t n_p1 n_places n_equations n_p1_rows : Nat) (v_divisor : Int64) (v_squareSum : Int64) (v_p1_size : Int32) (v_p1_stations : Int32) (r_equations : Nat → Int64) (r_p1_rows : Nat → Int32) (x2 : Int32) (x3 : Int32) {o_r : Int64} (hm : f_X3_residual x2 x3 v_divisor r_equations r_p1_rows = some o_r) : Met l yX3_residual wsX3_residual rm_X3_residual (gPre dC dI k [.ref n_t, .ref n_p1, .int x2, .int x3] sz (wd_9ad03a k n_t n_p1 n_places n_equations n_p1_rows v_divisor v_squareSum v_p1_size v_p1_stations r_equations r_p1_rows)) (gQL dC dI (va_A (wd_9ad03a k n_t n_p1 n_places n_equations n_p1_rows v_divisor v_squareSum v_p1_size v_p1_stations r_equations r_p1_rows) sz) o_r (wd_9ad03a k n_t n_p1 n_places n_equations n_p1_rows v_divisor v_squareSum v_p1_size v_p1_stations r_equations r_p1_rows)) 0 0 (va_A (wd_9ad03a k n_t n_p1 n_places n_equations n_p1_rows v_divisor v_squareSum v_p1_size v_p1_stations r_equations r_p1_rows) sz) := by
  refine g_entry (cc := cX3_residual) (maxL := 6) (ret := (some .long)) (lv := [(0, .ref n_t), (1, .ref n_p1), (2, .int x2), (3, .int x3)]) (by decide +kernel) rfl (Nat.le_of_ble_eq_true rfl) rfl (fun p e s m below meth c ls hx hb hr hml hts hown hlk hnm hsz hG hA hP hD hS hl => ?_)
  exact k_X3_residual hx hb hml hts hown hG hA n_t n_p1 n_places n_equations n_p1_rows v_divisor v_squareSum v_p1_size v_p1_stations r_equations r_p1_rows x2 x3 o_r (fun pc H locs ls v hd ho hP hD hS => by cases ho; exact g_lret hx hb hr hlk hP hD hS hd) s.heap [] ls hl hP hD hS hm
end
section
set_option maxHeartbeats 4000000 in
set_option maxRecDepth 100000 in
theorem k_X3_squareOf {p : Program} {l : Launch} {e : Env} {s : State} {m : MethodId} {args : Array Value} {below : List Frame} {meth : Method} {c : Code} {A : Nat → Prop} {Q : State → Prop} {dC : Nat → ClassId} {dI : Nat → Nat → Nat} {k : Nat → ClassId} (hx : p.tables.exec = Jvm.exec) (hb : c.code = cX3_squareOf) (hml : c.maxLocals = 8) (hts : ∀ w ∈ wsX3_squareOf, w.before args s = true) (hown : s.vm.findClass RX3 = some m.cls) (hG : gK dC dI k A s) (hA : ∀ q : Nat, s.heap.size ≤ q → A q) (F : Nat) (n_t n_p1 n_places n_equations n_p1_rows : Nat) (v_divisor : Int64) (v_squareSum : Int64) (v_p1_size : Int32) (v_p1_stations : Int32) (r_equations : Nat → Int64) (r_p1_rows : Nat → Int32) (x2 : Int32) (o_r : Int64) (RET : ∀ (pc : Nat) (H : Heap) (locs : List Loc) (ls : Array Slot) (v : Int64), decode cX3_squareOf pc = .ok (.lreturn, 1) → some v = some o_r → va_P (dC, dI) vwCl (wd_9ad03a k n_t n_p1 n_places n_equations n_p1_rows v_divisor v_squareSum v_p1_size v_p1_stations r_equations r_p1_rows) H → va_D A (wd_9ad03a k n_t n_p1 n_places n_equations n_p1_rows v_divisor v_squareSum v_p1_size v_p1_stations r_equations r_p1_rows) → va_S A s.heap H locs → W p l e rm_X3_squareOf s m args below meth c H locs 0 0 Q (F0 m pc ls [.long v])) (H : Heap) (locs : List Loc) (ls : Array Slot) (hl : lv_has ls 8 [(0, .ref n_t), (1, .ref n_p1), (2, .int x2)]) (hP : va_P (dC, dI) vwCl (wd_9ad03a k n_t n_p1 n_places n_equations n_p1_rows v_divisor v_squareSum v_p1_size v_p1_stations r_equations r_p1_rows) H) (hD : va_D A (wd_9ad03a k n_t n_p1 n_places n_equations n_p1_rows v_divisor v_squareSum v_p1_size v_p1_stations r_equations r_p1_rows)) (hS : va_S A s.heap H locs) (hm : f_X3_squareOf F x2 v_divisor r_equations r_p1_rows = some o_r) : W p l e rm_X3_squareOf s m args below meth c H locs 0 0 Q (F0 m 0 ls []) := by
  have L_5 : ∀ (n5 : Nat) (x2 : Int32) (x3 : Int64) (x5 : Int32) (H : Heap) (locs : List Loc) (ls : Array Slot), lv_has ls 8 [(0, .ref n_t), (1, .ref n_p1), (2, .int x2), (3, .long x3), (5, .int x5)] → va_P (dC, dI) vwCl (wd_9ad03a k n_t n_p1 n_places n_equations n_p1_rows v_divisor v_squareSum v_p1_size v_p1_stations r_equations r_p1_rows) H → va_D A (wd_9ad03a k n_t n_p1 n_places n_equations n_p1_rows v_divisor v_squareSum v_p1_size v_p1_stations r_equations r_p1_rows) → va_S A s.heap H locs → f_X3_squareOf_L5 F v_divisor r_equations r_p1_rows n5 x2 x3 x5 = some o_r → W p l e rm_X3_squareOf s m args below meth c H locs 0 0 Q (F0 m 5 ls []) := by
    intro n5
    induction n5 with
    | zero =>
      intro x2 x3 x5 H locs ls hl hP hD hS hm
      exact non_some hm
    | succ n5 ih5 =>
      intro x2 x3 x5 H locs ls hl hP hD hS hm
      replace hm : f_X3_squareOf_B5 F v_divisor r_equations r_p1_rows (f_X3_squareOf_L5 F v_divisor r_equations r_p1_rows n5) x2 x3 x5 = some o_r := hm
      unfold f_X3_squareOf_B5 at hm
      refine lv_iload hx hb dX3_squareOf_5 (lv_at hl 4 rfl) ?_
      refine lv_iconst (v := (3 : Int32)) hx hb dX3_squareOf_7 (by decide) ?_
      refine lv_icmp_ge (tgt := 35) hx hb dX3_squareOf_8 (by decide) (fun c1 => ?_) (fun c1 => ?_)
      · replace hm := ifp c1 hm
        refine lv_lload_n hx hb dX3_squareOf_35 rfl (lv_at hl 3 rfl) ?_
        exact RET _ _ _ _ _ dX3_squareOf_36 hm hP hD hS
      · replace hm := ifn c1 hm
        refine lv_aload_n hx hb dX3_squareOf_11 rfl (lv_at hl 0 rfl) ?_
        refine lv_aload_n hx hb dX3_squareOf_12 rfl (lv_at hl 1 rfl) ?_
        refine lv_iload_n hx hb dX3_squareOf_13 rfl (lv_at hl 2 rfl) ?_
        refine lv_iload hx hb dX3_squareOf_14 (lv_at hl 4 rfl) ?_
        obtain ⟨r2, e3, hm⟩ := bnd1_some hm
        refine g_calll (w2 := (wd_9ad03a k n_t n_p1 n_places n_equations n_p1_rows v_divisor v_squareSum v_p1_size v_p1_stations r_equations r_p1_rows)) (va_runV (As := [.ref n_p1, .int x2, .int x5]) (rest := []) ⟨hx, hb, hml, hown, hts⟩ (m_X3_residual l dC dI k H.size n_t n_p1 n_places n_equations n_p1_rows v_divisor v_squareSum v_p1_size v_p1_stations r_equations r_p1_rows x2 x5 e3) (cwV 3 hts gX3_squareOf_X3_residual rfl rfl rfl (by decide +kernel) ⟨Nat.le_of_ble_eq_true rfl, Nat.le_of_ble_eq_true rfl⟩) (g_preV hG hP hD hS hA [0, 1, 2, 3] rfl (by decide) (ci := 3) (q0 := 0) rfl rfl) rfl rfl hl.1 rfl (lv_room (Nat.le_of_ble_eq_true rfl)) dX3_squareOf_16 ⟨Nat.le_of_ble_eq_true rfl, Nat.le_of_ble_eq_true rfl⟩) hP hD hS hA [0, 1, 2, 3] [] [0, 1, 2, 3] rfl rfl (by decide) (by decide) rfl (by decide) (fun H locs hP hD hS => ?_)
        refine lv_lstore (lv' := [(6, .long r2), (0, .ref n_t), (1, .ref n_p1), (2, .int x2), (3, .long x3), (5, .int x5)]) hx hb dX3_squareOf_19 hl (by decide) rfl (fun ls hl => ?_)
        refine lv_lload_n hx hb dX3_squareOf_21 rfl (lv_at hl 4 rfl) ?_
        refine lv_lload hx hb dX3_squareOf_22 (lv_at hl 0 rfl) ?_
        refine lv_lload hx hb dX3_squareOf_24 (lv_at hl 0 rfl) ?_
        refine lv_lmul hx hb dX3_squareOf_26 ?_
        refine lv_ladd hx hb dX3_squareOf_27 ?_
        refine lv_topl (fun t4 et4 => ?_)
        replace hm := (nmd_eq et4).trans hm
        refine lv_lstore_n (lv' := [(3, .long t4), (6, .long r2), (0, .ref n_t), (1, .ref n_p1), (2, .int x2), (5, .int x5)]) hx hb dX3_squareOf_28 rfl hl (by decide) rfl (fun ls hl => ?_)
        obtain ⟨t5, et5⟩ : ∃ y : Int32, y = x5 + (1 : Int32) := ⟨_, rfl⟩
        replace hm := (nmd_eq et5).trans hm
        refine lv_iinc (v := t5) (lv' := [(5, .int t5), (3, .long t4), (6, .long r2), (0, .ref n_t), (1, .ref n_p1), (2, .int x2)]) hx hb dX3_squareOf_29 hl (k := 5) rfl (by rw [et5]; rfl) (by decide) rfl (fun ls hl => ?_)
        refine lv_goto (tgt := 5) hx hb dX3_squareOf_32 (by decide) ?_
        exact ih5 _ _ _ _ _ _ (lv_sub hl [3, 4, 5, 1, 0] rfl) hP hD hS hm
  unfold f_X3_squareOf at hm
  refine lv_lconst (v := (0 : Int64)) hx hb dX3_squareOf_0 (by decide) ?_
  refine lv_lstore_n (lv' := [(3, .long (0 : Int64)), (0, .ref n_t), (1, .ref n_p1), (2, .int x2)]) hx hb dX3_squareOf_1 rfl hl (by decide) rfl (fun ls hl => ?_)
  refine lv_iconst (v := (0 : Int32)) hx hb dX3_squareOf_2 (by decide) ?_
  refine lv_istore (lv' := [(5, .int (0 : Int32)), (3, .long (0 : Int64)), (0, .ref n_t), (1, .ref n_p1), (2, .int x2)]) hx hb dX3_squareOf_3 hl (by decide) rfl (fun ls hl => ?_)
  exact L_5 F _ _ _ _ _ _ (lv_sub hl [2, 3, 4, 1, 0] rfl) hP hD hS hm
set_option maxRecDepth 100000 in
theorem m_X3_squareOf (l : Launch) (dC : Nat → ClassId) (dI : Nat → Nat → Nat) (k : Nat → ClassId) (F : Nat) (sz : Nat) (n_t n_p1 n_places n_equations n_p1_rows : Nat) (v_divisor : Int64) (v_squareSum : Int64) (v_p1_size : Int32) (v_p1_stations : Int32) (r_equations : Nat → Int64) (r_p1_rows : Nat → Int32) (x2 : Int32) {o_r : Int64} (hm : f_X3_squareOf F x2 v_divisor r_equations r_p1_rows = some o_r) : Met l yX3_squareOf wsX3_squareOf rm_X3_squareOf (gPre dC dI k [.ref n_t, .ref n_p1, .int x2] sz (wd_9ad03a k n_t n_p1 n_places n_equations n_p1_rows v_divisor v_squareSum v_p1_size v_p1_stations r_equations r_p1_rows)) (gQL dC dI (va_A (wd_9ad03a k n_t n_p1 n_places n_equations n_p1_rows v_divisor v_squareSum v_p1_size v_p1_stations r_equations r_p1_rows) sz) o_r (wd_9ad03a k n_t n_p1 n_places n_equations n_p1_rows v_divisor v_squareSum v_p1_size v_p1_stations r_equations r_p1_rows)) 0 0 (va_A (wd_9ad03a k n_t n_p1 n_places n_equations n_p1_rows v_divisor v_squareSum v_p1_size v_p1_stations r_equations r_p1_rows) sz) := by
  refine g_entry (cc := cX3_squareOf) (maxL := 8) (ret := (some .long)) (lv := [(0, .ref n_t), (1, .ref n_p1), (2, .int x2)]) (by decide +kernel) rfl (Nat.le_of_ble_eq_true rfl) rfl (fun p e s m below meth c ls hx hb hr hml hts hown hlk hnm hsz hG hA hP hD hS hl => ?_)
  exact k_X3_squareOf hx hb hml hts hown hG hA F n_t n_p1 n_places n_equations n_p1_rows v_divisor v_squareSum v_p1_size v_p1_stations r_equations r_p1_rows x2 o_r (fun pc H locs ls v hd ho hP hD hS => by cases ho; exact g_lret hx hb hr hlk hP hD hS hd) s.heap [] ls hl hP hD hS hm
end
section
set_option maxHeartbeats 4000000 in
set_option maxRecDepth 100000 in
theorem k_X3_adjust {p : Program} {l : Launch} {e : Env} {s : State} {m : MethodId} {args : Array Value} {below : List Frame} {meth : Method} {c : Code} {A : Nat → Prop} {Q : State → Prop} {dC : Nat → ClassId} {dI : Nat → Nat → Nat} {k : Nat → ClassId} (hx : p.tables.exec = Jvm.exec) (hb : c.code = cX3_adjust) (hml : c.maxLocals = 6) (hts : ∀ w ∈ wsX3_adjust, w.before args s = true) (hown : s.vm.findClass RX3 = some m.cls) (hG : gK dC dI k A s) (hA : ∀ q : Nat, s.heap.size ≤ q → A q) (F : Nat) (n_t n_p1 n_places n_equations n_p1_rows : Nat) (v_divisor : Int64) (v_squareSum : Int64) (v_p1_size : Int32) (v_p1_stations : Int32) (r_equations : Nat → Int64) (r_p1_rows : Nat → Int32) (x2 : Int32) (o_v_divisor : (Int64)) (o_v_squareSum : (Int64)) (o_r_equations : (Nat → Int64)) (RET : ∀ (pc : Nat) (H : Heap) (locs : List Loc) (ls : Array Slot) (q_v_divisor : Int64) (q_v_squareSum : Int64) (q_r_equations : Nat → Int64), decode cX3_adjust pc = .ok (.return_, 1) → some (q_v_divisor, q_v_squareSum, q_r_equations) = some (o_v_divisor, o_v_squareSum, o_r_equations) → va_P (dC, dI) vwCl (wd_9ad03a k n_t n_p1 n_places n_equations n_p1_rows q_v_divisor q_v_squareSum v_p1_size v_p1_stations q_r_equations r_p1_rows) H → va_D A (wd_9ad03a k n_t n_p1 n_places n_equations n_p1_rows q_v_divisor q_v_squareSum v_p1_size v_p1_stations q_r_equations r_p1_rows) → va_S A s.heap H locs → W p l e rm_X3_adjust s m args below meth c H locs 0 0 Q (F0 m pc ls [])) (H : Heap) (locs : List Loc) (ls : Array Slot) (hl : lv_has ls 6 [(0, .ref n_t), (1, .ref n_p1), (2, .int x2)]) (hP : va_P (dC, dI) vwCl (wd_9ad03a k n_t n_p1 n_places n_equations n_p1_rows v_divisor v_squareSum v_p1_size v_p1_stations r_equations r_p1_rows) H) (hD : va_D A (wd_9ad03a k n_t n_p1 n_places n_equations n_p1_rows v_divisor v_squareSum v_p1_size v_p1_stations r_equations r_p1_rows)) (hS : va_S A s.heap H locs) (hm : f_X3_adjust F x2 v_divisor v_squareSum r_equations v_p1_size r_p1_rows = some (o_v_divisor, o_v_squareSum, o_r_equations)) : W p l e rm_X3_adjust s m args below meth c H locs 0 0 Q (F0 m 0 ls []) := by
  have hinX0 : ∀ w ∈ u_ws RX0 TX0 3, w ∈ wsX3_adjust := by decide +kernel
  have hinX3 : ∀ w ∈ u_ws RX3 TX3 4, w ∈ wsX3_adjust := by decide +kernel
  have k0 := hts (.fieldLink RX3 78 "CaveLegs$Legs" "size" "I") (by decide +kernel)
  have k1 := hts (.initialized RX5) (by decide +kernel)
  have k2 := hts (.static yX5_holds) (by decide +kernel)
  have k3 := hts (.fieldLink RX3 89 "CaveLegs$Survey" "squareSum" "J") (by decide +kernel)
  have k4 := hts (.fieldLink RX3 15 "CaveLegs$Survey" "equations" "[J") (by decide +kernel)
  have L_111 : ∀ (n111 : Nat) (v_divisor : Int64) (v_squareSum : Int64) (r_equations : Nat → Int64) (x4 : Int32) (x5 : Int32) (H : Heap) (locs : List Loc) (ls : Array Slot), lv_has ls 6 [(0, .ref n_t), (1, .ref n_p1), (4, .int x4), (5, .int x5)] → va_P (dC, dI) vwCl (wd_9ad03a k n_t n_p1 n_places n_equations n_p1_rows v_divisor v_squareSum v_p1_size v_p1_stations r_equations r_p1_rows) H → va_D A (wd_9ad03a k n_t n_p1 n_places n_equations n_p1_rows v_divisor v_squareSum v_p1_size v_p1_stations r_equations r_p1_rows) → va_S A s.heap H locs → f_X3_adjust_L111 F v_p1_size r_p1_rows n111 v_divisor v_squareSum r_equations x4 x5 = some (o_v_divisor, o_v_squareSum, o_r_equations) → W p l e rm_X3_adjust s m args below meth c H locs 0 0 Q (F0 m 111 ls []) := by
    intro n111
    induction n111 with
    | zero =>
      intro v_divisor v_squareSum r_equations x4 x5 H locs ls hl hP hD hS hm
      exact non_some hm
    | succ n111 ih111 =>
      have J_146 : ∀ (v_divisor : Int64) (v_squareSum : Int64) (r_equations : Nat → Int64) (x4 : Int32) (x5 : Int32) (H : Heap) (locs : List Loc) (ls : Array Slot), lv_has ls 6 [(0, .ref n_t), (1, .ref n_p1), (4, .int x4), (5, .int x5)] → va_P (dC, dI) vwCl (wd_9ad03a k n_t n_p1 n_places n_equations n_p1_rows v_divisor v_squareSum v_p1_size v_p1_stations r_equations r_p1_rows) H → va_D A (wd_9ad03a k n_t n_p1 n_places n_equations n_p1_rows v_divisor v_squareSum v_p1_size v_p1_stations r_equations r_p1_rows) → va_S A s.heap H locs → f_X3_adjust_J146 F v_p1_size r_p1_rows (f_X3_adjust_L111 F v_p1_size r_p1_rows n111) v_divisor v_squareSum r_equations x4 x5 = some (o_v_divisor, o_v_squareSum, o_r_equations) → W p l e rm_X3_adjust s m args below meth c H locs 0 0 Q (F0 m 146 ls []) := by
        intro v_divisor v_squareSum r_equations x4 x5 H locs ls hl hP hD hS hm
        unfold f_X3_adjust_J146 at hm
        obtain ⟨t1, et1⟩ : ∃ y : Int32, y = x5 + (1 : Int32) := ⟨_, rfl⟩
        replace hm := (nmd_eq et1).trans hm
        refine lv_iinc (v := t1) (lv' := [(5, .int t1), (0, .ref n_t), (1, .ref n_p1), (4, .int x4)]) hx hb dX3_adjust_146 hl (k := 3) rfl (by rw [et1]; rfl) (by decide) rfl (fun ls hl => ?_)
        refine lv_goto (tgt := 111) hx hb dX3_adjust_149 (by decide) ?_
        exact ih111 _ _ _ _ _ _ _ _ (lv_sub hl [1, 2, 3, 0] rfl) hP hD hS hm
      intro v_divisor v_squareSum r_equations x4 x5 H locs ls hl hP hD hS hm
      replace hm : f_X3_adjust_B111 F v_p1_size r_p1_rows (f_X3_adjust_L111 F v_p1_size r_p1_rows n111) v_divisor v_squareSum r_equations x4 x5 = some (o_v_divisor, o_v_squareSum, o_r_equations) := hm
      unfold f_X3_adjust_B111 at hm
      refine lv_iload hx hb dX3_adjust_111 (lv_at hl 3 rfl) ?_
      refine lv_aload_n hx hb dX3_adjust_113 rfl (lv_at hl 1 rfl) ?_
      refine va_get (D := (dC, dI)) (ci := 0) (v := .int v_p1_size) (C := RX0) (T := TX0) (N := 3) hx hb hts hinX0 hown hG.1 hP 2 rfl rfl 1 (by decide) k0 (fun _ h9 => h9) rfl dX3_adjust_114 ?_
      refine lv_icmp_ge (tgt := 152) hx hb dX3_adjust_117 (by decide) (fun c2 => ?_) (fun c2 => ?_)
      · replace hm := ifp c2 hm
        exact RET _ _ _ _ _ _ _ dX3_adjust_152 hm hP hD hS
      · replace hm := ifn c2 hm
        refine lv_iload hx hb dX3_adjust_120 (lv_at hl 2 rfl) ?_
        refine lv_iload hx hb dX3_adjust_122 (lv_at hl 3 rfl) ?_
        obtain ⟨r3, e4, hm⟩ := bnd1_some hm
        refine g_calli (w2 := (wd_9ad03a k n_t n_p1 n_places n_equations n_p1_rows v_divisor v_squareSum v_p1_size v_p1_stations r_equations r_p1_rows)) (va_runSN (As := [.int x4, .int x5]) (rest := []) ⟨hx, hb, hml, hown, hts⟩ (m_X5_holds l dC dI k H.size  x4 x5 e4) ⟨va_cnB 2 hts gX3_adjust_X5_holds_n39 rfl rfl rfl hG.2.1.2.2.2.2.2.2.2.1 k1 (by decide +kernel) ⟨Nat.le_of_ble_eq_true rfl, Nat.le_of_ble_eq_true rfl⟩, k2, trivial⟩ (g_preS hG hP hD hS hA [] rfl (by decide)) rfl rfl hl.1 rfl (lv_room (Nat.le_of_ble_eq_true rfl)) dX3_adjust_124 ⟨Nat.le_of_ble_eq_true rfl, Nat.le_of_ble_eq_true rfl⟩) hP hD hS hA [] [0, 1, 2, 3] [0, 1, 2, 3] rfl rfl (by decide) (by decide) rfl (by decide) (fun H locs hP hD hS => ?_)
        refine lv_if_eq (tgt := 146) hx hb dX3_adjust_127 (by decide) (fun c5 => ?_) (fun c5 => ?_)
        · replace hm := ifp c5 hm
          exact J_146 _ _ _ _ _ _ _ _ (lv_sub hl [0, 1, 2, 3] rfl) hP hD hS hm
        · replace hm := ifn c5 hm
          refine lv_aload_n hx hb dX3_adjust_130 rfl (lv_at hl 0 rfl) ?_
          refine lv_dup hx hb dX3_adjust_131 rfl ?_
          refine va_get (D := (dC, dI)) (ci := 3) (v := .long v_squareSum) (C := RX3) (T := TX3) (N := 4) hx hb hts hinX3 hown hG.1 hP 0 rfl rfl 3 (by decide) k3 (fun _ h9 => h9) rfl dX3_adjust_132 ?_
          refine lv_aload_n hx hb dX3_adjust_135 rfl (lv_at hl 0 rfl) ?_
          refine lv_aload_n hx hb dX3_adjust_136 rfl (lv_at hl 1 rfl) ?_
          refine lv_iload hx hb dX3_adjust_137 (lv_at hl 3 rfl) ?_
          obtain ⟨r6, e7, hm⟩ := bnd1_some hm
          refine g_calll (w2 := (wd_9ad03a k n_t n_p1 n_places n_equations n_p1_rows v_divisor v_squareSum v_p1_size v_p1_stations r_equations r_p1_rows)) (va_runV (As := [.ref n_p1, .int x5]) (rest := [.long v_squareSum, .ref n_t]) ⟨hx, hb, hml, hown, hts⟩ (m_X3_squareOf l dC dI k F H.size n_t n_p1 n_places n_equations n_p1_rows v_divisor v_squareSum v_p1_size v_p1_stations r_equations r_p1_rows x5 e7) (cwV 2 hts gX3_adjust_X3_squareOf rfl rfl rfl (by decide +kernel) ⟨Nat.le_of_ble_eq_true rfl, Nat.le_of_ble_eq_true rfl⟩) (g_preV hG hP hD hS hA [0, 1, 2, 3] rfl (by decide) (ci := 3) (q0 := 0) rfl rfl) rfl rfl hl.1 rfl (lv_room (Nat.le_of_ble_eq_true rfl)) dX3_adjust_139 ⟨Nat.le_of_ble_eq_true rfl, Nat.le_of_ble_eq_true rfl⟩) hP hD hS hA [0, 1, 2, 3] [] [0, 1, 2, 3] rfl rfl (by decide) (by decide) rfl (by decide) (fun H locs hP hD hS => ?_)
          refine lv_ladd hx hb dX3_adjust_142 ?_
          refine lv_topl (fun t8 et8 => ?_)
          replace hm := (nmd_eq et8).trans hm
          refine va_put (D := (dC, dI)) (ci := 3) (v := .long t8) (ty := .long) (C := RX3) (T := TX3) (N := 4) hx hb hts hinX3 tyX3 tyX3_ok nmX3 hown hG.1 hP hD hS 0 rfl rfl 3 (by decide) k3 (fun _ h9 => h9) rfl (by decide +kernel) rfl rfl (Nat.le_of_ble_eq_true rfl) dX3_adjust_143 (fun H locs hP hD hS => ?_)
          replace hP : va_P (dC, dI) vwCl (wd_9ad03a k n_t n_p1 n_places n_equations n_p1_rows v_divisor t8 v_p1_size v_p1_stations r_equations r_p1_rows) H := hP
          replace hD : va_D A (wd_9ad03a k n_t n_p1 n_places n_equations n_p1_rows v_divisor t8 v_p1_size v_p1_stations r_equations r_p1_rows) := hD
          exact J_146 _ _ _ _ _ _ _ _ (lv_sub hl [0, 1, 2, 3] rfl) hP hD hS hm
  have L_67 : ∀ (n67 : Nat) (v_divisor : Int64) (v_squareSum : Int64) (r_equations : Nat → Int64) (x4 : Int32) (x5 : Int32) (H : Heap) (locs : List Loc) (ls : Array Slot), lv_has ls 6 [(0, .ref n_t), (1, .ref n_p1), (4, .int x4), (5, .int x5)] → va_P (dC, dI) vwCl (wd_9ad03a k n_t n_p1 n_places n_equations n_p1_rows v_divisor v_squareSum v_p1_size v_p1_stations r_equations r_p1_rows) H → va_D A (wd_9ad03a k n_t n_p1 n_places n_equations n_p1_rows v_divisor v_squareSum v_p1_size v_p1_stations r_equations r_p1_rows) → va_S A s.heap H locs → f_X3_adjust_L67 F v_p1_size r_p1_rows n67 v_divisor v_squareSum r_equations x4 x5 = some (o_v_divisor, o_v_squareSum, o_r_equations) → W p l e rm_X3_adjust s m args below meth c H locs 0 0 Q (F0 m 67 ls []) := by
    intro n67
    induction n67 with
    | zero =>
      intro v_divisor v_squareSum r_equations x4 x5 H locs ls hl hP hD hS hm
      exact non_some hm
    | succ n67 ih67 =>
      have J_93 : ∀ (v_divisor : Int64) (v_squareSum : Int64) (r_equations : Nat → Int64) (x4 : Int32) (x5 : Int32) (H : Heap) (locs : List Loc) (ls : Array Slot), lv_has ls 6 [(0, .ref n_t), (1, .ref n_p1), (4, .int x4), (5, .int x5)] → va_P (dC, dI) vwCl (wd_9ad03a k n_t n_p1 n_places n_equations n_p1_rows v_divisor v_squareSum v_p1_size v_p1_stations r_equations r_p1_rows) H → va_D A (wd_9ad03a k n_t n_p1 n_places n_equations n_p1_rows v_divisor v_squareSum v_p1_size v_p1_stations r_equations r_p1_rows) → va_S A s.heap H locs → f_X3_adjust_J93 F v_p1_size r_p1_rows (f_X3_adjust_L67 F v_p1_size r_p1_rows n67) v_divisor v_squareSum r_equations x4 x5 = some (o_v_divisor, o_v_squareSum, o_r_equations) → W p l e rm_X3_adjust s m args below meth c H locs 0 0 Q (F0 m 93 ls []) := by
        intro v_divisor v_squareSum r_equations x4 x5 H locs ls hl hP hD hS hm
        unfold f_X3_adjust_J93 at hm
        obtain ⟨t9, et9⟩ : ∃ y : Int32, y = x5 + (1 : Int32) := ⟨_, rfl⟩
        replace hm := (nmd_eq et9).trans hm
        refine lv_iinc (v := t9) (lv' := [(5, .int t9), (0, .ref n_t), (1, .ref n_p1), (4, .int x4)]) hx hb dX3_adjust_93 hl (k := 3) rfl (by rw [et9]; rfl) (by decide) rfl (fun ls hl => ?_)
        refine lv_goto (tgt := 67) hx hb dX3_adjust_96 (by decide) ?_
        exact ih67 _ _ _ _ _ _ _ _ (lv_sub hl [1, 2, 3, 0] rfl) hP hD hS hm
      intro v_divisor v_squareSum r_equations x4 x5 H locs ls hl hP hD hS hm
      replace hm : f_X3_adjust_B67 F v_p1_size r_p1_rows (f_X3_adjust_L67 F v_p1_size r_p1_rows n67) v_divisor v_squareSum r_equations x4 x5 = some (o_v_divisor, o_v_squareSum, o_r_equations) := hm
      unfold f_X3_adjust_B67 at hm
      refine lv_iload hx hb dX3_adjust_67 (lv_at hl 3 rfl) ?_
      refine lv_aload_n hx hb dX3_adjust_69 rfl (lv_at hl 1 rfl) ?_
      refine va_get (D := (dC, dI)) (ci := 0) (v := .int v_p1_size) (C := RX0) (T := TX0) (N := 3) hx hb hts hinX0 hown hG.1 hP 2 rfl rfl 1 (by decide) k0 (fun _ h9 => h9) rfl dX3_adjust_70 ?_
      refine lv_icmp_ge (tgt := 99) hx hb dX3_adjust_73 (by decide) (fun c10 => ?_) (fun c10 => ?_)
      · replace hm := ifp c10 hm
        refine lv_aload_n hx hb dX3_adjust_99 rfl (lv_at hl 0 rfl) ?_
        obtain ⟨w11, w12, e13, hm⟩ := bnd2_some hm
        refine g_callv (w2 := (wd_9ad03a k n_t n_p1 n_places n_equations n_p1_rows w11 v_squareSum v_p1_size v_p1_stations w12 r_p1_rows)) (va_runV (As := []) (rest := []) ⟨hx, hb, hml, hown, hts⟩ (m_X3_solve l dC dI k F H.size n_t n_places n_equations v_divisor v_squareSum r_equations  e13) (cwV 0 hts gX3_adjust_X3_solve rfl rfl rfl (by decide +kernel) ⟨Nat.le_of_ble_eq_true rfl, Nat.le_of_ble_eq_true rfl⟩) (g_preV hG hP hD hS hA [0, 1] rfl (by decide) (ci := 3) (q0 := 0) rfl rfl) rfl rfl hl.1 rfl (lv_room (Nat.le_of_ble_eq_true rfl)) dX3_adjust_100 ⟨Nat.le_of_ble_eq_true rfl, Nat.le_of_ble_eq_true rfl⟩) hP hD hS hA [0, 1] [2, 3] [2, 3, 0, 1] rfl rfl (by decide) (by decide) rfl (by decide) (fun H locs hP hD hS => ?_)
        refine lv_aload_n hx hb dX3_adjust_103 rfl (lv_at hl 0 rfl) ?_
        refine lv_lconst (v := (0 : Int64)) hx hb dX3_adjust_104 (by decide) ?_
        refine va_put (D := (dC, dI)) (ci := 3) (v := .long (0 : Int64)) (ty := .long) (C := RX3) (T := TX3) (N := 4) hx hb hts hinX3 tyX3 tyX3_ok nmX3 hown hG.1 hP hD hS 0 rfl rfl 3 (by decide) k3 (fun _ h9 => h9) rfl (by decide +kernel) rfl rfl (Nat.le_of_ble_eq_true rfl) dX3_adjust_105 (fun H locs hP hD hS => ?_)
        replace hP : va_P (dC, dI) vwCl (wd_9ad03a k n_t n_p1 n_places n_equations n_p1_rows w11 (0 : Int64) v_p1_size v_p1_stations w12 r_p1_rows) H := hP
        replace hD : va_D A (wd_9ad03a k n_t n_p1 n_places n_equations n_p1_rows w11 (0 : Int64) v_p1_size v_p1_stations w12 r_p1_rows) := hD
        refine lv_iconst (v := (0 : Int32)) hx hb dX3_adjust_108 (by decide) ?_
        refine lv_istore (lv' := [(5, .int (0 : Int32)), (0, .ref n_t), (1, .ref n_p1), (4, .int x4)]) hx hb dX3_adjust_109 hl (by decide) rfl (fun ls hl => ?_)
        exact L_111 F _ _ _ _ _ _ _ _ (lv_sub hl [1, 2, 3, 0] rfl) hP hD hS hm
      · replace hm := ifn c10 hm
        refine lv_iload hx hb dX3_adjust_76 (lv_at hl 2 rfl) ?_
        refine lv_iload hx hb dX3_adjust_78 (lv_at hl 3 rfl) ?_
        obtain ⟨r14, e15, hm⟩ := bnd1_some hm
        refine g_calli (w2 := (wd_9ad03a k n_t n_p1 n_places n_equations n_p1_rows v_divisor v_squareSum v_p1_size v_p1_stations r_equations r_p1_rows)) (va_runSN (As := [.int x4, .int x5]) (rest := []) ⟨hx, hb, hml, hown, hts⟩ (m_X5_holds l dC dI k H.size  x4 x5 e15) ⟨va_cnB 2 hts gX3_adjust_X5_holds_n39 rfl rfl rfl hG.2.1.2.2.2.2.2.2.2.1 k1 (by decide +kernel) ⟨Nat.le_of_ble_eq_true rfl, Nat.le_of_ble_eq_true rfl⟩, k2, trivial⟩ (g_preS hG hP hD hS hA [] rfl (by decide)) rfl rfl hl.1 rfl (lv_room (Nat.le_of_ble_eq_true rfl)) dX3_adjust_80 ⟨Nat.le_of_ble_eq_true rfl, Nat.le_of_ble_eq_true rfl⟩) hP hD hS hA [] [0, 1, 2, 3] [0, 1, 2, 3] rfl rfl (by decide) (by decide) rfl (by decide) (fun H locs hP hD hS => ?_)
        refine lv_if_eq (tgt := 93) hx hb dX3_adjust_83 (by decide) (fun c16 => ?_) (fun c16 => ?_)
        · replace hm := ifp c16 hm
          exact J_93 _ _ _ _ _ _ _ _ (lv_sub hl [0, 1, 2, 3] rfl) hP hD hS hm
        · replace hm := ifn c16 hm
          refine lv_aload_n hx hb dX3_adjust_86 rfl (lv_at hl 0 rfl) ?_
          refine lv_aload_n hx hb dX3_adjust_87 rfl (lv_at hl 1 rfl) ?_
          refine lv_iload hx hb dX3_adjust_88 (lv_at hl 3 rfl) ?_
          obtain ⟨w17, e18, hm⟩ := bnd1_some hm
          refine g_callv (w2 := (wd_9ad03a k n_t n_p1 n_places n_equations n_p1_rows v_divisor v_squareSum v_p1_size v_p1_stations w17 r_p1_rows)) (va_runV (As := [.ref n_p1, .int x5]) (rest := []) ⟨hx, hb, hml, hown, hts⟩ (m_X3_enter l dC dI k F H.size n_t n_p1 n_places n_equations n_p1_rows v_divisor v_squareSum v_p1_size v_p1_stations r_equations r_p1_rows x5 e18) (cwV 2 hts gX3_adjust_X3_enter rfl rfl rfl (by decide +kernel) ⟨Nat.le_of_ble_eq_true rfl, Nat.le_of_ble_eq_true rfl⟩) (g_preV hG hP hD hS hA [0, 1, 2, 3] rfl (by decide) (ci := 3) (q0 := 0) rfl rfl) rfl rfl hl.1 rfl (lv_room (Nat.le_of_ble_eq_true rfl)) dX3_adjust_90 ⟨Nat.le_of_ble_eq_true rfl, Nat.le_of_ble_eq_true rfl⟩) hP hD hS hA [0, 1, 2, 3] [] [0, 1, 2, 3] rfl rfl (by decide) (by decide) rfl (by decide) (fun H locs hP hD hS => ?_)
          exact J_93 _ _ _ _ _ _ _ _ (lv_sub hl [0, 1, 2, 3] rfl) hP hD hS hm
  have L_27 : ∀ (n27 : Nat) (v_divisor : Int64) (v_squareSum : Int64) (r_equations : Nat → Int64) (x3 : Int32) (x4 : Int32) (x5 : Int32) (H : Heap) (locs : List Loc) (ls : Array Slot), lv_has ls 6 [(0, .ref n_t), (1, .ref n_p1), (3, .int x3), (4, .int x4), (5, .int x5)] → va_P (dC, dI) vwCl (wd_9ad03a k n_t n_p1 n_places n_equations n_p1_rows v_divisor v_squareSum v_p1_size v_p1_stations r_equations r_p1_rows) H → va_D A (wd_9ad03a k n_t n_p1 n_places n_equations n_p1_rows v_divisor v_squareSum v_p1_size v_p1_stations r_equations r_p1_rows) → va_S A s.heap H locs → f_X3_adjust_L27 F v_p1_size r_p1_rows n27 v_divisor v_squareSum r_equations x3 x4 x5 = some (o_v_divisor, o_v_squareSum, o_r_equations) → W p l e rm_X3_adjust s m args below meth c H locs 0 0 Q (F0 m 27 ls []) := by
    intro n27
    induction n27 with
    | zero =>
      intro v_divisor v_squareSum r_equations x3 x4 x5 H locs ls hl hP hD hS hm
      exact non_some hm
    | succ n27 ih27 =>
      have J_55 : ∀ (v_divisor : Int64) (v_squareSum : Int64) (r_equations : Nat → Int64) (x3 : Int32) (x4 : Int32) (x5 : Int32) (s1 : Int32) (s2 : Int32) (s3 : Int64) (H : Heap) (locs : List Loc) (ls : Array Slot), lv_has ls 6 [(0, .ref n_t), (1, .ref n_p1), (3, .int x3), (4, .int x4), (5, .int x5)] → va_P (dC, dI) vwCl (wd_9ad03a k n_t n_p1 n_places n_equations n_p1_rows v_divisor v_squareSum v_p1_size v_p1_stations r_equations r_p1_rows) H → va_D A (wd_9ad03a k n_t n_p1 n_places n_equations n_p1_rows v_divisor v_squareSum v_p1_size v_p1_stations r_equations r_p1_rows) → va_S A s.heap H locs → f_X3_adjust_J55 F v_p1_size r_p1_rows (f_X3_adjust_L27 F v_p1_size r_p1_rows n27) v_divisor v_squareSum r_equations x3 x4 x5 s1 s2 s3 = some (o_v_divisor, o_v_squareSum, o_r_equations) → W p l e rm_X3_adjust s m args below meth c H locs 0 0 Q (F0 m 55 ls [.long s3, .int s2, .int s1, .ref n_t]) := by
        intro v_divisor v_squareSum r_equations x3 x4 x5 s1 s2 s3 H locs ls hl hP hD hS hm
        unfold f_X3_adjust_J55 at hm
        obtain ⟨w19, e20, hm⟩ := bnd1_some hm
        refine g_callv (w2 := (wd_9ad03a k n_t n_p1 n_places n_equations n_p1_rows v_divisor v_squareSum v_p1_size v_p1_stations w19 r_p1_rows)) (va_runV (As := [.int s1, .int s2, .long s3]) (rest := []) ⟨hx, hb, hml, hown, hts⟩ (m_X3_addTo l dC dI k H.size n_t n_places n_equations v_divisor v_squareSum r_equations s1 s2 s3 e20) (cwV 3 hts gX3_adjust_X3_addTo rfl rfl rfl (by decide +kernel) ⟨Nat.le_of_ble_eq_true rfl, Nat.le_of_ble_eq_true rfl⟩) (g_preV hG hP hD hS hA [0, 1] rfl (by decide) (ci := 3) (q0 := 0) rfl rfl) rfl rfl hl.1 rfl (lv_room (Nat.le_of_ble_eq_true rfl)) dX3_adjust_55 ⟨Nat.le_of_ble_eq_true rfl, Nat.le_of_ble_eq_true rfl⟩) hP hD hS hA [0, 1] [2, 3] [2, 3, 0, 1] rfl rfl (by decide) (by decide) rfl (by decide) (fun H locs hP hD hS => ?_)
        obtain ⟨t21, et21⟩ : ∃ y : Int32, y = x5 + (1 : Int32) := ⟨_, rfl⟩
        replace hm := (nmd_eq et21).trans hm
        refine lv_iinc (v := t21) (lv' := [(5, .int t21), (0, .ref n_t), (1, .ref n_p1), (3, .int x3), (4, .int x4)]) hx hb dX3_adjust_58 hl (k := 4) rfl (by rw [et21]; rfl) (by decide) rfl (fun ls hl => ?_)
        refine lv_goto (tgt := 27) hx hb dX3_adjust_61 (by decide) ?_
        exact ih27 _ _ _ _ _ _ _ _ _ (lv_sub hl [1, 2, 3, 4, 0] rfl) hP hD hS hm
      intro v_divisor v_squareSum r_equations x3 x4 x5 H locs ls hl hP hD hS hm
      replace hm : f_X3_adjust_B27 F v_p1_size r_p1_rows (f_X3_adjust_L27 F v_p1_size r_p1_rows n27) v_divisor v_squareSum r_equations x3 x4 x5 = some (o_v_divisor, o_v_squareSum, o_r_equations) := hm
      unfold f_X3_adjust_B27 at hm
      refine lv_iload hx hb dX3_adjust_27 (lv_at hl 4 rfl) ?_
      refine lv_bipush (v := (6 : Int32)) hx hb dX3_adjust_29 (by decide) ?_
      refine lv_icmp_ge (tgt := 64) hx hb dX3_adjust_31 (by decide) (fun c22 => ?_) (fun c22 => ?_)
      · replace hm := ifp c22 hm
        refine lv_iconst (v := (0 : Int32)) hx hb dX3_adjust_64 (by decide) ?_
        refine lv_istore (lv' := [(5, .int (0 : Int32)), (0, .ref n_t), (1, .ref n_p1), (3, .int x3), (4, .int x4)]) hx hb dX3_adjust_65 hl (by decide) rfl (fun ls hl => ?_)
        exact L_67 F _ _ _ _ _ _ _ _ (lv_sub hl [1, 2, 4, 0] rfl) hP hD hS hm
      · replace hm := ifn c22 hm
        refine lv_aload_n hx hb dX3_adjust_34 rfl (lv_at hl 0 rfl) ?_
        refine lv_iload hx hb dX3_adjust_35 (lv_at hl 4 rfl) ?_
        refine lv_iload hx hb dX3_adjust_37 (lv_at hl 4 rfl) ?_
        refine lv_iconst (v := (1 : Int32)) hx hb dX3_adjust_39 (by decide) ?_
        refine lv_isub hx hb dX3_adjust_40 ?_
        refine lv_iload_n hx hb dX3_adjust_41 rfl (lv_at hl 2 rfl) ?_
        refine lv_iload hx hb dX3_adjust_42 (lv_at hl 4 rfl) ?_
        obtain ⟨r23, e24, hm⟩ := bnd1_some hm
        refine g_calli (w2 := (wd_9ad03a k n_t n_p1 n_places n_equations n_p1_rows v_divisor v_squareSum v_p1_size v_p1_stations r_equations r_p1_rows)) (va_runSN (As := [.int x3, .int x5]) (rest := [.int (x5 - (1 : Int32)), .int x5, .ref n_t]) ⟨hx, hb, hml, hown, hts⟩ (m_X5_holds l dC dI k H.size  x3 x5 e24) ⟨va_cnB 2 hts gX3_adjust_X5_holds_n39 rfl rfl rfl hG.2.1.2.2.2.2.2.2.2.1 k1 (by decide +kernel) ⟨Nat.le_of_ble_eq_true rfl, Nat.le_of_ble_eq_true rfl⟩, k2, trivial⟩ (g_preS hG hP hD hS hA [] rfl (by decide)) rfl rfl hl.1 rfl (lv_room (Nat.le_of_ble_eq_true rfl)) dX3_adjust_44 ⟨Nat.le_of_ble_eq_true rfl, Nat.le_of_ble_eq_true rfl⟩) hP hD hS hA [] [0, 1, 2, 3] [0, 1, 2, 3] rfl rfl (by decide) (by decide) rfl (by decide) (fun H locs hP hD hS => ?_)
        refine lv_if_eq (tgt := 54) hx hb dX3_adjust_47 (by decide) (fun c25 => ?_) (fun c25 => ?_)
        · replace hm := ifp c25 hm
          refine lv_lconst (v := (1 : Int64)) hx hb dX3_adjust_54 (by decide) ?_
          exact J_55 _ _ _ _ _ _ _ _ _ _ _ _ (lv_sub hl [0, 1, 2, 3, 4] rfl) hP hD hS hm
        · replace hm := ifn c25 hm
          refine lv_lconst (v := (0 : Int64)) hx hb dX3_adjust_50 (by decide) ?_
          refine lv_goto (tgt := 55) hx hb dX3_adjust_51 (by decide) ?_
          exact J_55 _ _ _ _ _ _ _ _ _ _ _ _ (lv_sub hl [0, 1, 2, 3, 4] rfl) hP hD hS hm
  unfold f_X3_adjust at hm
  refine lv_aload_n hx hb dX3_adjust_0 rfl (lv_at hl 1 rfl) ?_
  refine lv_iload_n hx hb dX3_adjust_1 rfl (lv_at hl 2 rfl) ?_
  refine lv_iconst (v := (1 : Int32)) hx hb dX3_adjust_2 (by decide) ?_
  obtain ⟨r26, e27, hm⟩ := bnd1_some hm
  refine g_calli (w2 := (wd_9ad03a k n_t n_p1 n_places n_equations n_p1_rows v_divisor v_squareSum v_p1_size v_p1_stations r_equations r_p1_rows)) (va_runV (As := [.int x2, .int (1 : Int32)]) (rest := []) ⟨hx, hb, hml, hown, hts⟩ (m_X0_spread l dC dI k F H.size n_p1 n_p1_rows v_p1_size v_p1_stations r_p1_rows x2 (1 : Int32) e27) (cwV 2 hts gX3_adjust_X0_spread rfl rfl rfl (by decide +kernel) ⟨Nat.le_of_ble_eq_true rfl, Nat.le_of_ble_eq_true rfl⟩) (g_preV hG hP hD hS hA [2, 3] rfl (by decide) (ci := 0) (q0 := 2) rfl rfl) rfl rfl hl.1 rfl (lv_room (Nat.le_of_ble_eq_true rfl)) dX3_adjust_3 ⟨Nat.le_of_ble_eq_true rfl, Nat.le_of_ble_eq_true rfl⟩) hP hD hS hA [2, 3] [0, 1] [0, 1, 2, 3] rfl rfl (by decide) (by decide) rfl (by decide) (fun H locs hP hD hS => ?_)
  refine lv_istore_n (lv' := [(3, .int r26), (0, .ref n_t), (1, .ref n_p1), (2, .int x2)]) hx hb dX3_adjust_6 rfl hl (by decide) rfl (fun ls hl => ?_)
  refine lv_iload_n hx hb dX3_adjust_7 rfl (lv_at hl 3 rfl) ?_
  refine lv_aload_n hx hb dX3_adjust_8 rfl (lv_at hl 2 rfl) ?_
  refine lv_iload_n hx hb dX3_adjust_9 rfl (lv_at hl 0 rfl) ?_
  obtain ⟨r28, e29, hm⟩ := bnd1_some hm
  refine g_calli (w2 := (wd_9ad03a k n_t n_p1 n_places n_equations n_p1_rows v_divisor v_squareSum v_p1_size v_p1_stations r_equations r_p1_rows)) (va_runV (As := [.int r26]) (rest := [.int x2]) ⟨hx, hb, hml, hown, hts⟩ (m_X0_touching l dC dI k F H.size n_p1 n_p1_rows v_p1_size v_p1_stations r_p1_rows r26 e29) (cwV 1 hts gX3_adjust_X0_touching rfl rfl rfl (by decide +kernel) ⟨Nat.le_of_ble_eq_true rfl, Nat.le_of_ble_eq_true rfl⟩) (g_preV hG hP hD hS hA [2, 3] rfl (by decide) (ci := 0) (q0 := 2) rfl rfl) rfl rfl hl.1 rfl (lv_room (Nat.le_of_ble_eq_true rfl)) dX3_adjust_10 ⟨Nat.le_of_ble_eq_true rfl, Nat.le_of_ble_eq_true rfl⟩) hP hD hS hA [2, 3] [0, 1] [0, 1, 2, 3] rfl rfl (by decide) (by decide) rfl (by decide) (fun H locs hP hD hS => ?_)
  refine lv_iand hx hb dX3_adjust_13 ?_
  refine lv_topi (fun t30 et30 => ?_)
  replace hm := (nmd_eq et30).trans hm
  refine lv_istore (lv' := [(4, .int t30), (3, .int r26), (0, .ref n_t), (1, .ref n_p1), (2, .int x2)]) hx hb dX3_adjust_14 hl (by decide) rfl (fun ls hl => ?_)
  refine lv_aload_n hx hb dX3_adjust_16 rfl (lv_at hl 2 rfl) ?_
  refine va_get (D := (dC, dI)) (ci := 3) (v := .ref n_equations) (C := RX3) (T := TX3) (N := 4) hx hb hts hinX3 hown hG.1 hP 0 rfl rfl 1 (by decide) k4 (fun _ h9 => h9) rfl dX3_adjust_17 ?_
  refine lv_lconst (v := (0 : Int64)) hx hb dX3_adjust_20 (by decide) ?_
  obtain ⟨w31, e32, hm⟩ := bnd1_some hm
  refine g_callv (w2 := (wd_9ad03a k n_t n_p1 n_places n_equations n_p1_rows v_divisor v_squareSum v_p1_size v_p1_stations w31 r_p1_rows)) (va_runS (As := [.ref n_equations, .long (0 : Int64)]) (rest := []) ⟨hx, hb, hml, hown, hts⟩ (m_J7_fill_d0a16 l dC dI k F H.size n_equations r_equations (0 : Int64) e32) (va_cwS 2 hts gX3_adjust_J7_fill_d0a16 rfl rfl rfl (by decide +kernel) ⟨Nat.le_of_ble_eq_true rfl, Nat.le_of_ble_eq_true rfl⟩) (g_preS hG hP hD hS hA [1] rfl (by decide)) rfl rfl hl.1 rfl (lv_room (Nat.le_of_ble_eq_true rfl)) dX3_adjust_21 ⟨Nat.le_of_ble_eq_true rfl, Nat.le_of_ble_eq_true rfl⟩) hP hD hS hA [1] [0, 2, 3] [0, 3, 1, 2] rfl rfl (by decide) (by decide) rfl (by decide) (fun H locs hP hD hS => ?_)
  refine lv_iconst (v := (1 : Int32)) hx hb dX3_adjust_24 (by decide) ?_
  refine lv_istore (lv' := [(5, .int (1 : Int32)), (4, .int t30), (3, .int r26), (0, .ref n_t), (1, .ref n_p1), (2, .int x2)]) hx hb dX3_adjust_25 hl (by decide) rfl (fun ls hl => ?_)
  exact L_27 F _ _ _ _ _ _ _ _ _ (lv_sub hl [3, 4, 2, 1, 0] rfl) hP hD hS hm
set_option maxRecDepth 100000 in
theorem m_X3_adjust (l : Launch) (dC : Nat → ClassId) (dI : Nat → Nat → Nat) (k : Nat → ClassId) (F : Nat) (sz : Nat) (n_t n_p1 n_places n_equations n_p1_rows : Nat) (v_divisor : Int64) (v_squareSum : Int64) (v_p1_size : Int32) (v_p1_stations : Int32) (r_equations : Nat → Int64) (r_p1_rows : Nat → Int32) (x2 : Int32) {o_v_divisor : (Int64)} {o_v_squareSum : (Int64)} {o_r_equations : (Nat → Int64)} (hm : f_X3_adjust F x2 v_divisor v_squareSum r_equations v_p1_size r_p1_rows = some (o_v_divisor, o_v_squareSum, o_r_equations)) : Met l yX3_adjust wsX3_adjust rm_X3_adjust (gPre dC dI k [.ref n_t, .ref n_p1, .int x2] sz (wd_9ad03a k n_t n_p1 n_places n_equations n_p1_rows v_divisor v_squareSum v_p1_size v_p1_stations r_equations r_p1_rows)) (gQV dC dI (va_A (wd_9ad03a k n_t n_p1 n_places n_equations n_p1_rows v_divisor v_squareSum v_p1_size v_p1_stations r_equations r_p1_rows) sz) (wd_9ad03a k n_t n_p1 n_places n_equations n_p1_rows o_v_divisor o_v_squareSum v_p1_size v_p1_stations o_r_equations r_p1_rows)) 0 0 (va_A (wd_9ad03a k n_t n_p1 n_places n_equations n_p1_rows v_divisor v_squareSum v_p1_size v_p1_stations r_equations r_p1_rows) sz) := by
  refine g_entry (cc := cX3_adjust) (maxL := 6) (ret := none) (lv := [(0, .ref n_t), (1, .ref n_p1), (2, .int x2)]) (by decide +kernel) rfl (Nat.le_of_ble_eq_true rfl) rfl (fun p e s m below meth c ls hx hb hr hml hts hown hlk hnm hsz hG hA hP hD hS hl => ?_)
  exact k_X3_adjust hx hb hml hts hown hG hA F n_t n_p1 n_places n_equations n_p1_rows v_divisor v_squareSum v_p1_size v_p1_stations r_equations r_p1_rows x2 o_v_divisor o_v_squareSum o_r_equations (fun pc H locs ls q_v_divisor q_v_squareSum q_r_equations hd ho hP hD hS => by cases ho; exact g_vret hx hb hr hlk hP hD hS hd) s.heap [] ls hl hP hD hS hm
end
section
set_option maxHeartbeats 4000000 in
set_option maxRecDepth 100000 in
theorem k_X3_blunder {p : Program} {l : Launch} {e : Env} {s : State} {m : MethodId} {args : Array Value} {below : List Frame} {meth : Method} {c : Code} {A : Nat → Prop} {Q : State → Prop} {dC : Nat → ClassId} {dI : Nat → Nat → Nat} {k : Nat → ClassId} (hx : p.tables.exec = Jvm.exec) (hb : c.code = cX3_blunder) (hml : c.maxLocals = 11) (hts : ∀ w ∈ wsX3_blunder, w.before args s = true) (hown : s.vm.findClass RX3 = some m.cls) (hG : gK dC dI k A s) (hA : ∀ q : Nat, s.heap.size ≤ q → A q) (F : Nat) (n_t n_p1 n_places n_equations n_p1_rows : Nat) (v_divisor : Int64) (v_squareSum : Int64) (v_p1_size : Int32) (v_p1_stations : Int32) (r_equations : Nat → Int64) (r_p1_rows : Nat → Int32) (o_r : Int32) (o_v_divisor : (Int64)) (o_v_squareSum : (Int64)) (o_r_equations : (Nat → Int64)) (RET : ∀ (pc : Nat) (H : Heap) (locs : List Loc) (ls : Array Slot) (v : Int32) (q_v_divisor : Int64) (q_v_squareSum : Int64) (q_r_equations : Nat → Int64), decode cX3_blunder pc = .ok (.ireturn, 1) → some (v, q_v_divisor, q_v_squareSum, q_r_equations) = some (o_r, o_v_divisor, o_v_squareSum, o_r_equations) → va_P (dC, dI) vwCl (wd_9ad03a k n_t n_p1 n_places n_equations n_p1_rows q_v_divisor q_v_squareSum v_p1_size v_p1_stations q_r_equations r_p1_rows) H → va_D A (wd_9ad03a k n_t n_p1 n_places n_equations n_p1_rows q_v_divisor q_v_squareSum v_p1_size v_p1_stations q_r_equations r_p1_rows) → va_S A s.heap H locs → W p l e rm_X3_blunder s m args below meth c H locs 0 0 Q (F0 m pc ls [.int v])) (H : Heap) (locs : List Loc) (ls : Array Slot) (hl : lv_has ls 11 [(0, .ref n_t), (1, .ref n_p1)]) (hP : va_P (dC, dI) vwCl (wd_9ad03a k n_t n_p1 n_places n_equations n_p1_rows v_divisor v_squareSum v_p1_size v_p1_stations r_equations r_p1_rows) H) (hD : va_D A (wd_9ad03a k n_t n_p1 n_places n_equations n_p1_rows v_divisor v_squareSum v_p1_size v_p1_stations r_equations r_p1_rows)) (hS : va_S A s.heap H locs) (hm : f_X3_blunder F v_divisor v_squareSum r_equations v_p1_size r_p1_rows = some (o_r, o_v_divisor, o_v_squareSum, o_r_equations)) : W p l e rm_X3_blunder s m args below meth c H locs 0 0 Q (F0 m 0 ls []) := by
  have hinX0 : ∀ w ∈ u_ws RX0 TX0 3, w ∈ wsX3_blunder := by decide +kernel
  have hinX3 : ∀ w ∈ u_ws RX3 TX3 4, w ∈ wsX3_blunder := by decide +kernel
  have k0 := hts (.fieldLink RX3 89 "CaveLegs$Survey" "squareSum" "J") (by decide +kernel)
  have k1 := hts (.fieldLink RX3 78 "CaveLegs$Legs" "size" "I") (by decide +kernel)
  have k2 := hts (.initialized RX5) (by decide +kernel)
  have k3 := hts (.static yX5_holds) (by decide +kernel)
  have k4 := hts (.fieldLink RX3 19 "CaveLegs$Survey" "divisor" "J") (by decide +kernel)
  have L_17 : ∀ (n17 : Nat) (v_divisor : Int64) (v_squareSum : Int64) (r_equations : Nat → Int64) (x2 : Int32) (x3 : Int32) (x4 : Int64) (x6 : Int64) (x8 : Int32) (H : Heap) (locs : List Loc) (ls : Array Slot), lv_has ls 11 [(0, .ref n_t), (1, .ref n_p1), (2, .int x2), (3, .int x3), (4, .long x4), (6, .long x6), (8, .int x8)] → va_P (dC, dI) vwCl (wd_9ad03a k n_t n_p1 n_places n_equations n_p1_rows v_divisor v_squareSum v_p1_size v_p1_stations r_equations r_p1_rows) H → va_D A (wd_9ad03a k n_t n_p1 n_places n_equations n_p1_rows v_divisor v_squareSum v_p1_size v_p1_stations r_equations r_p1_rows) → va_S A s.heap H locs → f_X3_blunder_L17 F v_p1_size r_p1_rows n17 v_divisor v_squareSum r_equations x2 x3 x4 x6 x8 = some (o_r, o_v_divisor, o_v_squareSum, o_r_equations) → W p l e rm_X3_blunder s m args below meth c H locs 0 0 Q (F0 m 17 ls []) := by
    intro n17
    induction n17 with
    | zero =>
      intro v_divisor v_squareSum r_equations x2 x3 x4 x6 x8 H locs ls hl hP hD hS hm
      exact non_some hm
    | succ n17 ih17 =>
      have J_97 : ∀ (v_divisor : Int64) (v_squareSum : Int64) (r_equations : Nat → Int64) (x2 : Int32) (x3 : Int32) (x4 : Int64) (x6 : Int64) (x8 : Int32) (H : Heap) (locs : List Loc) (ls : Array Slot), lv_has ls 11 [(0, .ref n_t), (1, .ref n_p1), (2, .int x2), (3, .int x3), (4, .long x4), (6, .long x6), (8, .int x8)] → va_P (dC, dI) vwCl (wd_9ad03a k n_t n_p1 n_places n_equations n_p1_rows v_divisor v_squareSum v_p1_size v_p1_stations r_equations r_p1_rows) H → va_D A (wd_9ad03a k n_t n_p1 n_places n_equations n_p1_rows v_divisor v_squareSum v_p1_size v_p1_stations r_equations r_p1_rows) → va_S A s.heap H locs → f_X3_blunder_J97 F v_p1_size r_p1_rows (f_X3_blunder_L17 F v_p1_size r_p1_rows n17) v_divisor v_squareSum r_equations x2 x3 x4 x6 x8 = some (o_r, o_v_divisor, o_v_squareSum, o_r_equations) → W p l e rm_X3_blunder s m args below meth c H locs 0 0 Q (F0 m 97 ls []) := by
        intro v_divisor v_squareSum r_equations x2 x3 x4 x6 x8 H locs ls hl hP hD hS hm
        unfold f_X3_blunder_J97 at hm
        obtain ⟨t1, et1⟩ : ∃ y : Int32, y = x8 + (1 : Int32) := ⟨_, rfl⟩
        replace hm := (nmd_eq et1).trans hm
        refine lv_iinc (v := t1) (lv' := [(8, .int t1), (0, .ref n_t), (1, .ref n_p1), (2, .int x2), (3, .int x3), (4, .long x4), (6, .long x6)]) hx hb dX3_blunder_97 hl (k := 6) rfl (by rw [et1]; rfl) (by decide) rfl (fun ls hl => ?_)
        refine lv_goto (tgt := 17) hx hb dX3_blunder_100 (by decide) ?_
        exact ih17 _ _ _ _ _ _ _ _ _ _ _ (lv_sub hl [1, 2, 3, 4, 5, 6, 0] rfl) hP hD hS hm
      have J_84 : ∀ (v_divisor : Int64) (v_squareSum : Int64) (r_equations : Nat → Int64) (x2 : Int32) (x8 : Int32) (x9 : Int64) (H : Heap) (locs : List Loc) (ls : Array Slot), lv_has ls 11 [(0, .ref n_t), (1, .ref n_p1), (2, .int x2), (8, .int x8), (9, .long x9)] → va_P (dC, dI) vwCl (wd_9ad03a k n_t n_p1 n_places n_equations n_p1_rows v_divisor v_squareSum v_p1_size v_p1_stations r_equations r_p1_rows) H → va_D A (wd_9ad03a k n_t n_p1 n_places n_equations n_p1_rows v_divisor v_squareSum v_p1_size v_p1_stations r_equations r_p1_rows) → va_S A s.heap H locs → f_X3_blunder_J84 F v_p1_size r_p1_rows (f_X3_blunder_L17 F v_p1_size r_p1_rows n17) v_divisor v_squareSum r_equations x2 x8 x9 = some (o_r, o_v_divisor, o_v_squareSum, o_r_equations) → W p l e rm_X3_blunder s m args below meth c H locs 0 0 Q (F0 m 84 ls []) := by
        intro v_divisor v_squareSum r_equations x2 x8 x9 H locs ls hl hP hD hS hm
        unfold f_X3_blunder_J84 at hm
        refine lv_iload hx hb dX3_blunder_84 (lv_at hl 3 rfl) ?_
        refine lv_istore_n (lv' := [(3, .int x8), (0, .ref n_t), (1, .ref n_p1), (2, .int x2), (8, .int x8), (9, .long x9)]) hx hb dX3_blunder_86 rfl hl (by decide) rfl (fun ls hl => ?_)
        refine lv_aload_n hx hb dX3_blunder_87 rfl (lv_at hl 1 rfl) ?_
        refine va_get (D := (dC, dI)) (ci := 3) (v := .long v_squareSum) (C := RX3) (T := TX3) (N := 4) hx hb hts hinX3 hown hG.1 hP 0 rfl rfl 3 (by decide) k0 (fun _ h9 => h9) rfl dX3_blunder_88 ?_
        refine lv_lstore (lv' := [(4, .long v_squareSum), (3, .int x8), (0, .ref n_t), (1, .ref n_p1), (2, .int x2), (8, .int x8), (9, .long x9)]) hx hb dX3_blunder_91 hl (by decide) rfl (fun ls hl => ?_)
        refine lv_lload hx hb dX3_blunder_93 (lv_at hl 6 rfl) ?_
        refine lv_lstore (lv' := [(6, .long x9), (4, .long v_squareSum), (3, .int x8), (0, .ref n_t), (1, .ref n_p1), (2, .int x2), (8, .int x8), (9, .long x9)]) hx hb dX3_blunder_95 hl (by decide) rfl (fun ls hl => ?_)
        exact J_97 _ _ _ _ _ _ _ _ _ _ _ (lv_sub hl [3, 4, 5, 2, 1, 0, 6] rfl) hP hD hS hm
      intro v_divisor v_squareSum r_equations x2 x3 x4 x6 x8 H locs ls hl hP hD hS hm
      replace hm : f_X3_blunder_B17 F v_p1_size r_p1_rows (f_X3_blunder_L17 F v_p1_size r_p1_rows n17) v_divisor v_squareSum r_equations x2 x3 x4 x6 x8 = some (o_r, o_v_divisor, o_v_squareSum, o_r_equations) := hm
      unfold f_X3_blunder_B17 at hm
      refine lv_iload hx hb dX3_blunder_17 (lv_at hl 6 rfl) ?_
      refine lv_aload_n hx hb dX3_blunder_19 rfl (lv_at hl 1 rfl) ?_
      refine va_get (D := (dC, dI)) (ci := 0) (v := .int v_p1_size) (C := RX0) (T := TX0) (N := 3) hx hb hts hinX0 hown hG.1 hP 2 rfl rfl 1 (by decide) k1 (fun _ h9 => h9) rfl dX3_blunder_20 ?_
      refine lv_icmp_ge (tgt := 103) hx hb dX3_blunder_23 (by decide) (fun c2 => ?_) (fun c2 => ?_)
      · replace hm := ifp c2 hm
        refine lv_iload_n hx hb dX3_blunder_103 rfl (lv_at hl 3 rfl) ?_
        exact RET _ _ _ _ _ _ _ _ dX3_blunder_104 hm hP hD hS
      · replace hm := ifn c2 hm
        refine lv_iload_n hx hb dX3_blunder_26 rfl (lv_at hl 2 rfl) ?_
        refine lv_iload hx hb dX3_blunder_27 (lv_at hl 6 rfl) ?_
        obtain ⟨r3, e4, hm⟩ := bnd1_some hm
        refine g_calli (w2 := (wd_9ad03a k n_t n_p1 n_places n_equations n_p1_rows v_divisor v_squareSum v_p1_size v_p1_stations r_equations r_p1_rows)) (va_runSN (As := [.int x2, .int x8]) (rest := []) ⟨hx, hb, hml, hown, hts⟩ (m_X5_holds l dC dI k H.size  x2 x8 e4) ⟨va_cnB 2 hts gX3_blunder_X5_holds_n39 rfl rfl rfl hG.2.1.2.2.2.2.2.2.2.1 k2 (by decide +kernel) ⟨Nat.le_of_ble_eq_true rfl, Nat.le_of_ble_eq_true rfl⟩, k3, trivial⟩ (g_preS hG hP hD hS hA [] rfl (by decide)) rfl rfl hl.1 rfl (lv_room (Nat.le_of_ble_eq_true rfl)) dX3_blunder_29 ⟨Nat.le_of_ble_eq_true rfl, Nat.le_of_ble_eq_true rfl⟩) hP hD hS hA [] [0, 1, 2, 3] [0, 1, 2, 3] rfl rfl (by decide) (by decide) rfl (by decide) (fun H locs hP hD hS => ?_)
        refine lv_if_eq (tgt := 97) hx hb dX3_blunder_32 (by decide) (fun c5 => ?_) (fun c5 => ?_)
        · replace hm := ifp c5 hm
          exact J_97 _ _ _ _ _ _ _ _ _ _ _ (lv_sub hl [0, 1, 2, 3, 4, 5, 6] rfl) hP hD hS hm
        · replace hm := ifn c5 hm
          refine lv_aload_n hx hb dX3_blunder_35 rfl (lv_at hl 0 rfl) ?_
          refine lv_aload_n hx hb dX3_blunder_36 rfl (lv_at hl 1 rfl) ?_
          refine lv_aload_n hx hb dX3_blunder_37 rfl (lv_at hl 1 rfl) ?_
          obtain ⟨r6, e7, hm⟩ := bnd1_some hm
          refine g_calli (w2 := (wd_9ad03a k n_t n_p1 n_places n_equations n_p1_rows v_divisor v_squareSum v_p1_size v_p1_stations r_equations r_p1_rows)) (va_runV (As := []) (rest := [.ref n_p1, .ref n_t]) ⟨hx, hb, hml, hown, hts⟩ (m_X0_all l dC dI k H.size n_p1 n_p1_rows v_p1_size v_p1_stations  e7) (cwV 0 hts gX3_blunder_X0_all rfl rfl rfl (by decide +kernel) ⟨Nat.le_of_ble_eq_true rfl, Nat.le_of_ble_eq_true rfl⟩) (g_preV hG hP hD hS hA [2] rfl (by decide) (ci := 0) (q0 := 2) rfl rfl) rfl rfl hl.1 rfl (lv_room (Nat.le_of_ble_eq_true rfl)) dX3_blunder_38 ⟨Nat.le_of_ble_eq_true rfl, Nat.le_of_ble_eq_true rfl⟩) hP hD hS hA [2] [0, 1, 3] [0, 1, 3, 2] rfl rfl (by decide) (by decide) rfl (by decide) (fun H locs hP hD hS => ?_)
          refine lv_iconst (v := (1 : Int32)) hx hb dX3_blunder_41 (by decide) ?_
          refine lv_iload hx hb dX3_blunder_42 (lv_at hl 6 rfl) ?_
          refine g_ishl hx hb dX3_blunder_44 ?_
          refine lv_iconst (v := (-1 : Int32)) hx hb dX3_blunder_45 (by decide) ?_
          refine lv_ixor hx hb dX3_blunder_46 ?_
          refine lv_iand hx hb dX3_blunder_47 ?_
          obtain ⟨w8, w9, w10, e11, hm⟩ := bnd3_some hm
          refine g_callv (w2 := (wd_9ad03a k n_t n_p1 n_places n_equations n_p1_rows w8 w9 v_p1_size v_p1_stations w10 r_p1_rows)) (va_runV (As := [.ref n_p1, .int (r6 &&& ((shlI (1 : Int32) x8) ^^^ (-1 : Int32)))]) (rest := []) ⟨hx, hb, hml, hown, hts⟩ (m_X3_adjust l dC dI k F H.size n_t n_p1 n_places n_equations n_p1_rows v_divisor v_squareSum v_p1_size v_p1_stations r_equations r_p1_rows (r6 &&& ((shlI (1 : Int32) x8) ^^^ (-1 : Int32))) e11) (cwV 2 hts gX3_blunder_X3_adjust rfl rfl rfl (by decide +kernel) ⟨Nat.le_of_ble_eq_true rfl, Nat.le_of_ble_eq_true rfl⟩) (g_preV hG hP hD hS hA [0, 1, 2, 3] rfl (by decide) (ci := 3) (q0 := 0) rfl rfl) rfl rfl hl.1 rfl (lv_room (Nat.le_of_ble_eq_true rfl)) dX3_blunder_48 ⟨Nat.le_of_ble_eq_true rfl, Nat.le_of_ble_eq_true rfl⟩) hP hD hS hA [0, 1, 2, 3] [] [0, 1, 2, 3] rfl rfl (by decide) (by decide) rfl (by decide) (fun H locs hP hD hS => ?_)
          refine lv_aload_n hx hb dX3_blunder_51 rfl (lv_at hl 0 rfl) ?_
          refine va_get (D := (dC, dI)) (ci := 3) (v := .long w8) (C := RX3) (T := TX3) (N := 4) hx hb hts hinX3 hown hG.1 hP 0 rfl rfl 2 (by decide) k4 (fun _ h9 => h9) rfl dX3_blunder_52 ?_
          refine lv_aload_n hx hb dX3_blunder_55 rfl (lv_at hl 0 rfl) ?_
          refine va_get (D := (dC, dI)) (ci := 3) (v := .long w8) (C := RX3) (T := TX3) (N := 4) hx hb hts hinX3 hown hG.1 hP 0 rfl rfl 2 (by decide) k4 (fun _ h9 => h9) rfl dX3_blunder_56 ?_
          refine lv_lmul hx hb dX3_blunder_59 ?_
          refine lv_topl (fun t12 et12 => ?_)
          replace hm := (nmd_eq et12).trans hm
          refine lv_lstore (lv' := [(9, .long t12), (0, .ref n_t), (1, .ref n_p1), (2, .int x2), (3, .int x3), (4, .long x4), (6, .long x6), (8, .int x8)]) hx hb dX3_blunder_60 hl (by decide) rfl (fun ls hl => ?_)
          refine lv_iload_n hx hb dX3_blunder_62 rfl (lv_at hl 4 rfl) ?_
          refine lv_bipush (v := (-9 : Int32)) hx hb dX3_blunder_63 (by decide) ?_
          refine lv_icmp_eq (tgt := 84) hx hb dX3_blunder_65 (by decide) (fun c13 => ?_) (fun c13 => ?_)
          · replace hm := ifp c13 hm
            exact J_84 _ _ _ _ _ _ _ _ _ (lv_sub hl [1, 2, 3, 7, 0] rfl) hP hD hS hm
          · replace hm := ifn c13 hm
            refine lv_aload_n hx hb dX3_blunder_68 rfl (lv_at hl 1 rfl) ?_
            refine va_get (D := (dC, dI)) (ci := 3) (v := .long w9) (C := RX3) (T := TX3) (N := 4) hx hb hts hinX3 hown hG.1 hP 0 rfl rfl 3 (by decide) k0 (fun _ h9 => h9) rfl dX3_blunder_69 ?_
            refine lv_lload hx hb dX3_blunder_72 (lv_at hl 6 rfl) ?_
            refine lv_lmul hx hb dX3_blunder_74 ?_
            refine lv_lload hx hb dX3_blunder_75 (lv_at hl 5 rfl) ?_
            refine lv_lload hx hb dX3_blunder_77 (lv_at hl 0 rfl) ?_
            refine lv_lmul hx hb dX3_blunder_79 ?_
            refine g_lcmp_ge (tgt := 97) hx hb dX3_blunder_80 rfl dX3_blunder_81 (by decide) (fun c14 => ?_) (fun c14 => ?_)
            · replace hm := ifp c14 hm
              exact J_97 _ _ _ _ _ _ _ _ _ _ _ (lv_sub hl [1, 2, 3, 4, 5, 6, 7] rfl) hP hD hS hm
            · replace hm := ifn c14 hm
              exact J_84 _ _ _ _ _ _ _ _ _ (lv_sub hl [1, 2, 3, 7, 0] rfl) hP hD hS hm
  unfold f_X3_blunder at hm
  refine lv_aload_n hx hb dX3_blunder_0 rfl (lv_at hl 1 rfl) ?_
  obtain ⟨r15, e16, hm⟩ := bnd1_some hm
  refine g_calli (w2 := (wd_9ad03a k n_t n_p1 n_places n_equations n_p1_rows v_divisor v_squareSum v_p1_size v_p1_stations r_equations r_p1_rows)) (va_runV (As := []) (rest := []) ⟨hx, hb, hml, hown, hts⟩ (m_X0_spare l dC dI k F H.size n_p1 n_p1_rows v_p1_size v_p1_stations r_p1_rows  e16) (cwV 0 hts gX3_blunder_X0_spare rfl rfl rfl (by decide +kernel) ⟨Nat.le_of_ble_eq_true rfl, Nat.le_of_ble_eq_true rfl⟩) (g_preV hG hP hD hS hA [2, 3] rfl (by decide) (ci := 0) (q0 := 2) rfl rfl) rfl rfl hl.1 rfl (lv_room (Nat.le_of_ble_eq_true rfl)) dX3_blunder_1 ⟨Nat.le_of_ble_eq_true rfl, Nat.le_of_ble_eq_true rfl⟩) hP hD hS hA [2, 3] [0, 1] [0, 1, 2, 3] rfl rfl (by decide) (by decide) rfl (by decide) (fun H locs hP hD hS => ?_)
  refine lv_istore_n (lv' := [(2, .int r15), (0, .ref n_t), (1, .ref n_p1)]) hx hb dX3_blunder_4 rfl hl (by decide) rfl (fun ls hl => ?_)
  refine lv_bipush (v := (-9 : Int32)) hx hb dX3_blunder_5 (by decide) ?_
  refine lv_istore_n (lv' := [(3, .int (-9 : Int32)), (2, .int r15), (0, .ref n_t), (1, .ref n_p1)]) hx hb dX3_blunder_7 rfl hl (by decide) rfl (fun ls hl => ?_)
  refine lv_lconst (v := (0 : Int64)) hx hb dX3_blunder_8 (by decide) ?_
  refine lv_lstore (lv' := [(4, .long (0 : Int64)), (3, .int (-9 : Int32)), (2, .int r15), (0, .ref n_t), (1, .ref n_p1)]) hx hb dX3_blunder_9 hl (by decide) rfl (fun ls hl => ?_)
  refine lv_lconst (v := (1 : Int64)) hx hb dX3_blunder_11 (by decide) ?_
  refine lv_lstore (lv' := [(6, .long (1 : Int64)), (4, .long (0 : Int64)), (3, .int (-9 : Int32)), (2, .int r15), (0, .ref n_t), (1, .ref n_p1)]) hx hb dX3_blunder_12 hl (by decide) rfl (fun ls hl => ?_)
  refine lv_iconst (v := (0 : Int32)) hx hb dX3_blunder_14 (by decide) ?_
  refine lv_istore (lv' := [(8, .int (0 : Int32)), (6, .long (1 : Int64)), (4, .long (0 : Int64)), (3, .int (-9 : Int32)), (2, .int r15), (0, .ref n_t), (1, .ref n_p1)]) hx hb dX3_blunder_15 hl (by decide) rfl (fun ls hl => ?_)
  exact L_17 F _ _ _ _ _ _ _ _ _ _ _ (lv_sub hl [5, 6, 4, 3, 2, 1, 0] rfl) hP hD hS hm
set_option maxRecDepth 100000 in
theorem m_X3_blunder (l : Launch) (dC : Nat → ClassId) (dI : Nat → Nat → Nat) (k : Nat → ClassId) (F : Nat) (sz : Nat) (n_t n_p1 n_places n_equations n_p1_rows : Nat) (v_divisor : Int64) (v_squareSum : Int64) (v_p1_size : Int32) (v_p1_stations : Int32) (r_equations : Nat → Int64) (r_p1_rows : Nat → Int32) {o_r : Int32} {o_v_divisor : (Int64)} {o_v_squareSum : (Int64)} {o_r_equations : (Nat → Int64)} (hm : f_X3_blunder F v_divisor v_squareSum r_equations v_p1_size r_p1_rows = some (o_r, o_v_divisor, o_v_squareSum, o_r_equations)) : Met l yX3_blunder wsX3_blunder rm_X3_blunder (gPre dC dI k [.ref n_t, .ref n_p1] sz (wd_9ad03a k n_t n_p1 n_places n_equations n_p1_rows v_divisor v_squareSum v_p1_size v_p1_stations r_equations r_p1_rows)) (gQI dC dI (va_A (wd_9ad03a k n_t n_p1 n_places n_equations n_p1_rows v_divisor v_squareSum v_p1_size v_p1_stations r_equations r_p1_rows) sz) o_r (wd_9ad03a k n_t n_p1 n_places n_equations n_p1_rows o_v_divisor o_v_squareSum v_p1_size v_p1_stations o_r_equations r_p1_rows)) 0 0 (va_A (wd_9ad03a k n_t n_p1 n_places n_equations n_p1_rows v_divisor v_squareSum v_p1_size v_p1_stations r_equations r_p1_rows) sz) := by
  refine g_entry (cc := cX3_blunder) (maxL := 11) (ret := (some .int)) (lv := [(0, .ref n_t), (1, .ref n_p1)]) (by decide +kernel) rfl (Nat.le_of_ble_eq_true rfl) rfl (fun p e s m below meth c ls hx hb hr hml hts hown hlk hnm hsz hG hA hP hD hS hl => ?_)
  exact k_X3_blunder hx hb hml hts hown hG hA F n_t n_p1 n_places n_equations n_p1_rows v_divisor v_squareSum v_p1_size v_p1_stations r_equations r_p1_rows o_r o_v_divisor o_v_squareSum o_r_equations (fun pc H locs ls v q_v_divisor q_v_squareSum q_r_equations hd ho hP hD hS => by cases ho; exact g_ireti hx hb hr hlk hP hD hS hd) s.heap [] ls hl hP hD hS hm
end
section
set_option maxHeartbeats 4000000 in
set_option maxRecDepth 100000 in
theorem k_X3_menders {p : Program} {l : Launch} {e : Env} {s : State} {m : MethodId} {args : Array Value} {below : List Frame} {meth : Method} {c : Code} {A : Nat → Prop} {Q : State → Prop} {dC : Nat → ClassId} {dI : Nat → Nat → Nat} {k : Nat → ClassId} (hx : p.tables.exec = Jvm.exec) (hb : c.code = cX3_menders) (hml : c.maxLocals = 5) (hts : ∀ w ∈ wsX3_menders, w.before args s = true) (hown : s.vm.findClass RX3 = some m.cls) (hG : gK dC dI k A s) (hA : ∀ q : Nat, s.heap.size ≤ q → A q) (F : Nat) (n_t n_p1 n_places n_equations n_p1_rows : Nat) (v_divisor : Int64) (v_squareSum : Int64) (v_p1_size : Int32) (v_p1_stations : Int32) (r_equations : Nat → Int64) (r_p1_rows : Nat → Int32) (o_r : Int32) (o_v_divisor : (Int64)) (o_v_squareSum : (Int64)) (o_r_equations : (Nat → Int64)) (RET : ∀ (pc : Nat) (H : Heap) (locs : List Loc) (ls : Array Slot) (v : Int32) (q_v_divisor : Int64) (q_v_squareSum : Int64) (q_r_equations : Nat → Int64), decode cX3_menders pc = .ok (.ireturn, 1) → some (v, q_v_divisor, q_v_squareSum, q_r_equations) = some (o_r, o_v_divisor, o_v_squareSum, o_r_equations) → va_P (dC, dI) vwCl (wd_9ad03a k n_t n_p1 n_places n_equations n_p1_rows q_v_divisor q_v_squareSum v_p1_size v_p1_stations q_r_equations r_p1_rows) H → va_D A (wd_9ad03a k n_t n_p1 n_places n_equations n_p1_rows q_v_divisor q_v_squareSum v_p1_size v_p1_stations q_r_equations r_p1_rows) → va_S A s.heap H locs → W p l e rm_X3_menders s m args below meth c H locs 0 0 Q (F0 m pc ls [.int v])) (H : Heap) (locs : List Loc) (ls : Array Slot) (hl : lv_has ls 5 [(0, .ref n_t), (1, .ref n_p1)]) (hP : va_P (dC, dI) vwCl (wd_9ad03a k n_t n_p1 n_places n_equations n_p1_rows v_divisor v_squareSum v_p1_size v_p1_stations r_equations r_p1_rows) H) (hD : va_D A (wd_9ad03a k n_t n_p1 n_places n_equations n_p1_rows v_divisor v_squareSum v_p1_size v_p1_stations r_equations r_p1_rows)) (hS : va_S A s.heap H locs) (hm : f_X3_menders F v_divisor v_squareSum r_equations v_p1_size r_p1_rows = some (o_r, o_v_divisor, o_v_squareSum, o_r_equations)) : W p l e rm_X3_menders s m args below meth c H locs 0 0 Q (F0 m 0 ls []) := by
  have hinX0 : ∀ w ∈ u_ws RX0 TX0 3, w ∈ wsX3_menders := by decide +kernel
  have hinX3 : ∀ w ∈ u_ws RX3 TX3 4, w ∈ wsX3_menders := by decide +kernel
  have k0 := hts (.fieldLink RX3 78 "CaveLegs$Legs" "size" "I") (by decide +kernel)
  have k1 := hts (.initialized RX5) (by decide +kernel)
  have k2 := hts (.static yX5_holds) (by decide +kernel)
  have k3 := hts (.fieldLink RX3 89 "CaveLegs$Survey" "squareSum" "J") (by decide +kernel)
  have L_10 : ∀ (n10 : Nat) (v_divisor : Int64) (v_squareSum : Int64) (r_equations : Nat → Int64) (x2 : Int32) (x3 : Int32) (x4 : Int32) (H : Heap) (locs : List Loc) (ls : Array Slot), lv_has ls 5 [(0, .ref n_t), (1, .ref n_p1), (2, .int x2), (3, .int x3), (4, .int x4)] → va_P (dC, dI) vwCl (wd_9ad03a k n_t n_p1 n_places n_equations n_p1_rows v_divisor v_squareSum v_p1_size v_p1_stations r_equations r_p1_rows) H → va_D A (wd_9ad03a k n_t n_p1 n_places n_equations n_p1_rows v_divisor v_squareSum v_p1_size v_p1_stations r_equations r_p1_rows) → va_S A s.heap H locs → f_X3_menders_L10 F v_p1_size r_p1_rows n10 v_divisor v_squareSum r_equations x2 x3 x4 = some (o_r, o_v_divisor, o_v_squareSum, o_r_equations) → W p l e rm_X3_menders s m args below meth c H locs 0 0 Q (F0 m 10 ls []) := by
    intro n10
    induction n10 with
    | zero =>
      intro v_divisor v_squareSum r_equations x2 x3 x4 H locs ls hl hP hD hS hm
      exact non_some hm
    | succ n10 ih10 =>
      have J_60 : ∀ (v_divisor : Int64) (v_squareSum : Int64) (r_equations : Nat → Int64) (x2 : Int32) (x3 : Int32) (x4 : Int32) (H : Heap) (locs : List Loc) (ls : Array Slot), lv_has ls 5 [(0, .ref n_t), (1, .ref n_p1), (2, .int x2), (3, .int x3), (4, .int x4)] → va_P (dC, dI) vwCl (wd_9ad03a k n_t n_p1 n_places n_equations n_p1_rows v_divisor v_squareSum v_p1_size v_p1_stations r_equations r_p1_rows) H → va_D A (wd_9ad03a k n_t n_p1 n_places n_equations n_p1_rows v_divisor v_squareSum v_p1_size v_p1_stations r_equations r_p1_rows) → va_S A s.heap H locs → f_X3_menders_J60 F v_p1_size r_p1_rows (f_X3_menders_L10 F v_p1_size r_p1_rows n10) v_divisor v_squareSum r_equations x2 x3 x4 = some (o_r, o_v_divisor, o_v_squareSum, o_r_equations) → W p l e rm_X3_menders s m args below meth c H locs 0 0 Q (F0 m 60 ls []) := by
        intro v_divisor v_squareSum r_equations x2 x3 x4 H locs ls hl hP hD hS hm
        unfold f_X3_menders_J60 at hm
        obtain ⟨t1, et1⟩ : ∃ y : Int32, y = x4 + (1 : Int32) := ⟨_, rfl⟩
        replace hm := (nmd_eq et1).trans hm
        refine lv_iinc (v := t1) (lv' := [(4, .int t1), (0, .ref n_t), (1, .ref n_p1), (2, .int x2), (3, .int x3)]) hx hb dX3_menders_60 hl (k := 4) rfl (by rw [et1]; rfl) (by decide) rfl (fun ls hl => ?_)
        refine lv_goto (tgt := 10) hx hb dX3_menders_63 (by decide) ?_
        exact ih10 _ _ _ _ _ _ _ _ _ (lv_sub hl [1, 2, 3, 4, 0] rfl) hP hD hS hm
      intro v_divisor v_squareSum r_equations x2 x3 x4 H locs ls hl hP hD hS hm
      replace hm : f_X3_menders_B10 F v_p1_size r_p1_rows (f_X3_menders_L10 F v_p1_size r_p1_rows n10) v_divisor v_squareSum r_equations x2 x3 x4 = some (o_r, o_v_divisor, o_v_squareSum, o_r_equations) := hm
      unfold f_X3_menders_B10 at hm
      refine lv_iload hx hb dX3_menders_10 (lv_at hl 4 rfl) ?_
      refine lv_aload_n hx hb dX3_menders_12 rfl (lv_at hl 1 rfl) ?_
      refine va_get (D := (dC, dI)) (ci := 0) (v := .int v_p1_size) (C := RX0) (T := TX0) (N := 3) hx hb hts hinX0 hown hG.1 hP 2 rfl rfl 1 (by decide) k0 (fun _ h9 => h9) rfl dX3_menders_13 ?_
      refine lv_icmp_ge (tgt := 66) hx hb dX3_menders_16 (by decide) (fun c2 => ?_) (fun c2 => ?_)
      · replace hm := ifp c2 hm
        refine lv_iload_n hx hb dX3_menders_66 rfl (lv_at hl 3 rfl) ?_
        exact RET _ _ _ _ _ _ _ _ dX3_menders_67 hm hP hD hS
      · replace hm := ifn c2 hm
        refine lv_iload_n hx hb dX3_menders_19 rfl (lv_at hl 2 rfl) ?_
        refine lv_iload hx hb dX3_menders_20 (lv_at hl 4 rfl) ?_
        obtain ⟨r3, e4, hm⟩ := bnd1_some hm
        refine g_calli (w2 := (wd_9ad03a k n_t n_p1 n_places n_equations n_p1_rows v_divisor v_squareSum v_p1_size v_p1_stations r_equations r_p1_rows)) (va_runSN (As := [.int x2, .int x4]) (rest := []) ⟨hx, hb, hml, hown, hts⟩ (m_X5_holds l dC dI k H.size  x2 x4 e4) ⟨va_cnB 2 hts gX3_menders_X5_holds_n39 rfl rfl rfl hG.2.1.2.2.2.2.2.2.2.1 k1 (by decide +kernel) ⟨Nat.le_of_ble_eq_true rfl, Nat.le_of_ble_eq_true rfl⟩, k2, trivial⟩ (g_preS hG hP hD hS hA [] rfl (by decide)) rfl rfl hl.1 rfl (lv_room (Nat.le_of_ble_eq_true rfl)) dX3_menders_22 ⟨Nat.le_of_ble_eq_true rfl, Nat.le_of_ble_eq_true rfl⟩) hP hD hS hA [] [0, 1, 2, 3] [0, 1, 2, 3] rfl rfl (by decide) (by decide) rfl (by decide) (fun H locs hP hD hS => ?_)
        refine lv_if_eq (tgt := 60) hx hb dX3_menders_25 (by decide) (fun c5 => ?_) (fun c5 => ?_)
        · replace hm := ifp c5 hm
          exact J_60 _ _ _ _ _ _ _ _ _ (lv_sub hl [0, 1, 2, 3, 4] rfl) hP hD hS hm
        · replace hm := ifn c5 hm
          refine lv_aload_n hx hb dX3_menders_28 rfl (lv_at hl 0 rfl) ?_
          refine lv_aload_n hx hb dX3_menders_29 rfl (lv_at hl 1 rfl) ?_
          refine lv_aload_n hx hb dX3_menders_30 rfl (lv_at hl 1 rfl) ?_
          obtain ⟨r6, e7, hm⟩ := bnd1_some hm
          refine g_calli (w2 := (wd_9ad03a k n_t n_p1 n_places n_equations n_p1_rows v_divisor v_squareSum v_p1_size v_p1_stations r_equations r_p1_rows)) (va_runV (As := []) (rest := [.ref n_p1, .ref n_t]) ⟨hx, hb, hml, hown, hts⟩ (m_X0_all l dC dI k H.size n_p1 n_p1_rows v_p1_size v_p1_stations  e7) (cwV 0 hts gX3_menders_X0_all rfl rfl rfl (by decide +kernel) ⟨Nat.le_of_ble_eq_true rfl, Nat.le_of_ble_eq_true rfl⟩) (g_preV hG hP hD hS hA [2] rfl (by decide) (ci := 0) (q0 := 2) rfl rfl) rfl rfl hl.1 rfl (lv_room (Nat.le_of_ble_eq_true rfl)) dX3_menders_31 ⟨Nat.le_of_ble_eq_true rfl, Nat.le_of_ble_eq_true rfl⟩) hP hD hS hA [2] [0, 1, 3] [0, 1, 3, 2] rfl rfl (by decide) (by decide) rfl (by decide) (fun H locs hP hD hS => ?_)
          refine lv_iconst (v := (1 : Int32)) hx hb dX3_menders_34 (by decide) ?_
          refine lv_iload hx hb dX3_menders_35 (lv_at hl 4 rfl) ?_
          refine g_ishl hx hb dX3_menders_37 ?_
          refine lv_iconst (v := (-1 : Int32)) hx hb dX3_menders_38 (by decide) ?_
          refine lv_ixor hx hb dX3_menders_39 ?_
          refine lv_iand hx hb dX3_menders_40 ?_
          obtain ⟨w8, w9, w10, e11, hm⟩ := bnd3_some hm
          refine g_callv (w2 := (wd_9ad03a k n_t n_p1 n_places n_equations n_p1_rows w8 w9 v_p1_size v_p1_stations w10 r_p1_rows)) (va_runV (As := [.ref n_p1, .int (r6 &&& ((shlI (1 : Int32) x4) ^^^ (-1 : Int32)))]) (rest := []) ⟨hx, hb, hml, hown, hts⟩ (m_X3_adjust l dC dI k F H.size n_t n_p1 n_places n_equations n_p1_rows v_divisor v_squareSum v_p1_size v_p1_stations r_equations r_p1_rows (r6 &&& ((shlI (1 : Int32) x4) ^^^ (-1 : Int32))) e11) (cwV 2 hts gX3_menders_X3_adjust rfl rfl rfl (by decide +kernel) ⟨Nat.le_of_ble_eq_true rfl, Nat.le_of_ble_eq_true rfl⟩) (g_preV hG hP hD hS hA [0, 1, 2, 3] rfl (by decide) (ci := 3) (q0 := 0) rfl rfl) rfl rfl hl.1 rfl (lv_room (Nat.le_of_ble_eq_true rfl)) dX3_menders_41 ⟨Nat.le_of_ble_eq_true rfl, Nat.le_of_ble_eq_true rfl⟩) hP hD hS hA [0, 1, 2, 3] [] [0, 1, 2, 3] rfl rfl (by decide) (by decide) rfl (by decide) (fun H locs hP hD hS => ?_)
          refine lv_aload_n hx hb dX3_menders_44 rfl (lv_at hl 0 rfl) ?_
          refine va_get (D := (dC, dI)) (ci := 3) (v := .long w9) (C := RX3) (T := TX3) (N := 4) hx hb hts hinX3 hown hG.1 hP 0 rfl rfl 3 (by decide) k3 (fun _ h9 => h9) rfl dX3_menders_45 ?_
          refine lv_lconst (v := (0 : Int64)) hx hb dX3_menders_48 (by decide) ?_
          refine g_lcmp_ne (tgt := 60) hx hb dX3_menders_49 rfl dX3_menders_50 (by decide) (fun c12 => ?_) (fun c12 => ?_)
          · replace hm := ifn c12 hm
            exact J_60 _ _ _ _ _ _ _ _ _ (lv_sub hl [0, 1, 2, 3, 4] rfl) hP hD hS hm
          · replace hm := ifp c12 hm
            refine lv_iload_n hx hb dX3_menders_53 rfl (lv_at hl 3 rfl) ?_
            refine lv_iconst (v := (1 : Int32)) hx hb dX3_menders_54 (by decide) ?_
            refine lv_iload hx hb dX3_menders_55 (lv_at hl 4 rfl) ?_
            refine g_ishl hx hb dX3_menders_57 ?_
            refine lv_ior hx hb dX3_menders_58 ?_
            refine lv_topi (fun t13 et13 => ?_)
            replace hm := (nmd_eq et13).trans hm
            refine lv_istore_n (lv' := [(3, .int t13), (0, .ref n_t), (1, .ref n_p1), (2, .int x2), (4, .int x4)]) hx hb dX3_menders_59 rfl hl (by decide) rfl (fun ls hl => ?_)
            exact J_60 _ _ _ _ _ _ _ _ _ (lv_sub hl [1, 2, 3, 0, 4] rfl) hP hD hS hm
  unfold f_X3_menders at hm
  refine lv_aload_n hx hb dX3_menders_0 rfl (lv_at hl 1 rfl) ?_
  obtain ⟨r14, e15, hm⟩ := bnd1_some hm
  refine g_calli (w2 := (wd_9ad03a k n_t n_p1 n_places n_equations n_p1_rows v_divisor v_squareSum v_p1_size v_p1_stations r_equations r_p1_rows)) (va_runV (As := []) (rest := []) ⟨hx, hb, hml, hown, hts⟩ (m_X0_spare l dC dI k F H.size n_p1 n_p1_rows v_p1_size v_p1_stations r_p1_rows  e15) (cwV 0 hts gX3_menders_X0_spare rfl rfl rfl (by decide +kernel) ⟨Nat.le_of_ble_eq_true rfl, Nat.le_of_ble_eq_true rfl⟩) (g_preV hG hP hD hS hA [2, 3] rfl (by decide) (ci := 0) (q0 := 2) rfl rfl) rfl rfl hl.1 rfl (lv_room (Nat.le_of_ble_eq_true rfl)) dX3_menders_1 ⟨Nat.le_of_ble_eq_true rfl, Nat.le_of_ble_eq_true rfl⟩) hP hD hS hA [2, 3] [0, 1] [0, 1, 2, 3] rfl rfl (by decide) (by decide) rfl (by decide) (fun H locs hP hD hS => ?_)
  refine lv_istore_n (lv' := [(2, .int r14), (0, .ref n_t), (1, .ref n_p1)]) hx hb dX3_menders_4 rfl hl (by decide) rfl (fun ls hl => ?_)
  refine lv_iconst (v := (0 : Int32)) hx hb dX3_menders_5 (by decide) ?_
  refine lv_istore_n (lv' := [(3, .int (0 : Int32)), (2, .int r14), (0, .ref n_t), (1, .ref n_p1)]) hx hb dX3_menders_6 rfl hl (by decide) rfl (fun ls hl => ?_)
  refine lv_iconst (v := (0 : Int32)) hx hb dX3_menders_7 (by decide) ?_
  refine lv_istore (lv' := [(4, .int (0 : Int32)), (3, .int (0 : Int32)), (2, .int r14), (0, .ref n_t), (1, .ref n_p1)]) hx hb dX3_menders_8 hl (by decide) rfl (fun ls hl => ?_)
  exact L_10 F _ _ _ _ _ _ _ _ _ (lv_sub hl [3, 4, 2, 1, 0] rfl) hP hD hS hm
set_option maxRecDepth 100000 in
theorem m_X3_menders (l : Launch) (dC : Nat → ClassId) (dI : Nat → Nat → Nat) (k : Nat → ClassId) (F : Nat) (sz : Nat) (n_t n_p1 n_places n_equations n_p1_rows : Nat) (v_divisor : Int64) (v_squareSum : Int64) (v_p1_size : Int32) (v_p1_stations : Int32) (r_equations : Nat → Int64) (r_p1_rows : Nat → Int32) {o_r : Int32} {o_v_divisor : (Int64)} {o_v_squareSum : (Int64)} {o_r_equations : (Nat → Int64)} (hm : f_X3_menders F v_divisor v_squareSum r_equations v_p1_size r_p1_rows = some (o_r, o_v_divisor, o_v_squareSum, o_r_equations)) : Met l yX3_menders wsX3_menders rm_X3_menders (gPre dC dI k [.ref n_t, .ref n_p1] sz (wd_9ad03a k n_t n_p1 n_places n_equations n_p1_rows v_divisor v_squareSum v_p1_size v_p1_stations r_equations r_p1_rows)) (gQI dC dI (va_A (wd_9ad03a k n_t n_p1 n_places n_equations n_p1_rows v_divisor v_squareSum v_p1_size v_p1_stations r_equations r_p1_rows) sz) o_r (wd_9ad03a k n_t n_p1 n_places n_equations n_p1_rows o_v_divisor o_v_squareSum v_p1_size v_p1_stations o_r_equations r_p1_rows)) 0 0 (va_A (wd_9ad03a k n_t n_p1 n_places n_equations n_p1_rows v_divisor v_squareSum v_p1_size v_p1_stations r_equations r_p1_rows) sz) := by
  refine g_entry (cc := cX3_menders) (maxL := 5) (ret := (some .int)) (lv := [(0, .ref n_t), (1, .ref n_p1)]) (by decide +kernel) rfl (Nat.le_of_ble_eq_true rfl) rfl (fun p e s m below meth c ls hx hb hr hml hts hown hlk hnm hsz hG hA hP hD hS hl => ?_)
  exact k_X3_menders hx hb hml hts hown hG hA F n_t n_p1 n_places n_equations n_p1_rows v_divisor v_squareSum v_p1_size v_p1_stations r_equations r_p1_rows o_r o_v_divisor o_v_squareSum o_r_equations (fun pc H locs ls v q_v_divisor q_v_squareSum q_r_equations hd ho hP hD hS => by cases ho; exact g_ireti hx hb hr hlk hP hD hS hd) s.heap [] ls hl hP hD hS hm
end
section
set_option maxHeartbeats 4000000 in
set_option maxRecDepth 100000 in
theorem k_X4_append {p : Program} {l : Launch} {e : Env} {s : State} {m : MethodId} {args : Array Value} {below : List Frame} {meth : Method} {c : Code} {A : Nat → Prop} {Q : State → Prop} {dC : Nat → ClassId} {dI : Nat → Nat → Nat} {k : Nat → ClassId} (hx : p.tables.exec = Jvm.exec) (hb : c.code = cX4_append) (hml : c.maxLocals = 2) (hts : ∀ w ∈ wsX4_append, w.before args s = true) (hown : s.vm.findClass RX4 = some m.cls) (hG : gK dC dI k A s) (hA : ∀ q : Nat, s.heap.size ≤ q → A q) (n_t n_letters : Nat) (v_length : Int32) (r_letters : Nat → Int32) (x1 : Int32) (o_r : Int32) (o_v_length : (Int32)) (o_r_letters : (Nat → Int32)) (RET : ∀ (pc : Nat) (H : Heap) (locs : List Loc) (ls : Array Slot) (v : Int32) (q_v_length : Int32) (q_r_letters : Nat → Int32), decode cX4_append pc = .ok (.ireturn, 1) → some (v, q_v_length, q_r_letters) = some (o_r, o_v_length, o_r_letters) → narrow .boolean (.int v) = .int v → va_P (dC, dI) vwCl (wd_9977c0 k n_t n_letters q_v_length q_r_letters) H → va_D A (wd_9977c0 k n_t n_letters q_v_length q_r_letters) → va_S A s.heap H locs → W p l e rm_X4_append s m args below meth c H locs 0 0 Q (F0 m pc ls [.int v])) (H : Heap) (locs : List Loc) (ls : Array Slot) (hl : lv_has ls 2 [(0, .ref n_t), (1, .int x1)]) (hP : va_P (dC, dI) vwCl (wd_9977c0 k n_t n_letters v_length r_letters) H) (hD : va_D A (wd_9977c0 k n_t n_letters v_length r_letters)) (hS : va_S A s.heap H locs) (hm : f_X4_append x1 v_length r_letters = some (o_r, o_v_length, o_r_letters)) : W p l e rm_X4_append s m args below meth c H locs 0 0 Q (F0 m 0 ls []) := by
  have hinX4 : ∀ w ∈ u_ws RX4 TX4 2, w ∈ wsX4_append := by decide +kernel
  have k0 := hts (.fieldLink RX4 15 "CaveLegs$Text" "length" "I") (by decide +kernel)
  have k1 := hts (.fieldLink RX4 9 "CaveLegs$Text" "letters" "[C") (by decide +kernel)
  unfold f_X4_append at hm
  refine lv_aload_n hx hb dX4_append_0 rfl (lv_at hl 0 rfl) ?_
  refine va_get (D := (dC, dI)) (ci := 4) (v := .int v_length) (C := RX4) (T := TX4) (N := 2) hx hb hts hinX4 hown hG.1 hP 0 rfl rfl 1 (by decide) k0 (fun _ h9 => h9) rfl dX4_append_1 ?_
  refine lv_if_lt (tgt := 19) hx hb dX4_append_4 (by decide) (fun c1 => ?_) (fun c1 => ?_)
  · replace hm := ifp c1 hm
    refine lv_iconst (v := (0 : Int32)) hx hb dX4_append_19 (by decide) ?_
    exact RET _ _ _ _ _ _ _ dX4_append_20 hm (by decide +kernel) hP hD hS
  · replace hm := ifn c1 hm
    refine lv_aload_n hx hb dX4_append_7 rfl (lv_at hl 0 rfl) ?_
    refine va_get (D := (dC, dI)) (ci := 4) (v := .int v_length) (C := RX4) (T := TX4) (N := 2) hx hb hts hinX4 hown hG.1 hP 0 rfl rfl 1 (by decide) k0 (fun _ h9 => h9) rfl dX4_append_8 ?_
    refine lv_aload_n hx hb dX4_append_11 rfl (lv_at hl 0 rfl) ?_
    refine va_get (D := (dC, dI)) (ci := 4) (v := .ref n_letters) (C := RX4) (T := TX4) (N := 2) hx hb hts hinX4 hown hG.1 hP 0 rfl rfl 0 (by decide) k1 (fun _ h9 => h9) rfl dX4_append_12 ?_
    refine va_alen (v := (70 : Int32)) hx hb hG.1 hP 1 2 rfl rfl rfl dX4_append_15 ?_
    refine lv_icmp_lt (tgt := 21) hx hb dX4_append_16 (by decide) (fun c2 => ?_) (fun c2 => ?_)
    · replace hm := ifp c2 hm
      refine lv_aload_n hx hb dX4_append_21 rfl (lv_at hl 0 rfl) ?_
      refine va_get (D := (dC, dI)) (ci := 4) (v := .ref n_letters) (C := RX4) (T := TX4) (N := 2) hx hb hts hinX4 hown hG.1 hP 0 rfl rfl 0 (by decide) k1 (fun _ h9 => h9) rfl dX4_append_22 ?_
      refine lv_aload_n hx hb dX4_append_25 rfl (lv_at hl 0 rfl) ?_
      refine va_get (D := (dC, dI)) (ci := 4) (v := .int v_length) (C := RX4) (T := TX4) (N := 2) hx hb hts hinX4 hown hG.1 hP 0 rfl rfl 1 (by decide) k0 (fun _ h9 => h9) rfl dX4_append_26 ?_
      refine lv_iload_n hx hb dX4_append_29 rfl (lv_at hl 1 rfl) ?_
      obtain ⟨hi3, hm⟩ := chk_some hm
      refine va_cast hx hb hG.1 hP hD hS 1 2 rfl rfl hi3 dX4_append_30 (fun H locs hP hD hS => ?_)
      replace hP : va_P (dC, dI) vwCl (wd_9977c0 k n_t n_letters v_length (upd r_letters (Int32.toNatClampNeg v_length) (vp_nar .char x1))) H := hP
      replace hD : va_D A (wd_9977c0 k n_t n_letters v_length (upd r_letters (Int32.toNatClampNeg v_length) (vp_nar .char x1))) := hD
      refine lv_aload_n hx hb dX4_append_31 rfl (lv_at hl 0 rfl) ?_
      refine lv_dup hx hb dX4_append_32 rfl ?_
      refine va_get (D := (dC, dI)) (ci := 4) (v := .int v_length) (C := RX4) (T := TX4) (N := 2) hx hb hts hinX4 hown hG.1 hP 0 rfl rfl 1 (by decide) k0 (fun _ h9 => h9) rfl dX4_append_33 ?_
      refine lv_iconst (v := (1 : Int32)) hx hb dX4_append_36 (by decide) ?_
      refine lv_iadd hx hb dX4_append_37 ?_
      refine lv_topi (fun t4 et4 => ?_)
      replace hm := (nmd_eq et4).trans hm
      refine va_put (D := (dC, dI)) (ci := 4) (v := .int t4) (ty := .int) (C := RX4) (T := TX4) (N := 2) hx hb hts hinX4 tyX4 tyX4_ok nmX4 hown hG.1 hP hD hS 0 rfl rfl 1 (by decide) k0 (fun _ h9 => h9) rfl (by decide +kernel) rfl rfl (Nat.le_of_ble_eq_true rfl) dX4_append_38 (fun H locs hP hD hS => ?_)
      replace hP : va_P (dC, dI) vwCl (wd_9977c0 k n_t n_letters t4 (upd r_letters (Int32.toNatClampNeg v_length) (vp_nar .char x1))) H := hP
      replace hD : va_D A (wd_9977c0 k n_t n_letters t4 (upd r_letters (Int32.toNatClampNeg v_length) (vp_nar .char x1))) := hD
      refine lv_iconst (v := (1 : Int32)) hx hb dX4_append_41 (by decide) ?_
      exact RET _ _ _ _ _ _ _ dX4_append_42 hm (by decide +kernel) hP hD hS
    · replace hm := ifn c2 hm
      refine lv_iconst (v := (0 : Int32)) hx hb dX4_append_19 (by decide) ?_
      exact RET _ _ _ _ _ _ _ dX4_append_20 hm (by decide +kernel) hP hD hS
set_option maxRecDepth 100000 in
theorem m_X4_append (l : Launch) (dC : Nat → ClassId) (dI : Nat → Nat → Nat) (k : Nat → ClassId) (sz : Nat) (n_t n_letters : Nat) (v_length : Int32) (r_letters : Nat → Int32) (x1 : Int32) {o_r : Int32} {o_v_length : (Int32)} {o_r_letters : (Nat → Int32)} (hm : f_X4_append x1 v_length r_letters = some (o_r, o_v_length, o_r_letters)) : Met l yX4_append wsX4_append rm_X4_append (gPre dC dI k [.ref n_t, .int x1] sz (wd_9977c0 k n_t n_letters v_length r_letters)) (gQI dC dI (va_A (wd_9977c0 k n_t n_letters v_length r_letters) sz) o_r (wd_9977c0 k n_t n_letters o_v_length o_r_letters)) 0 0 (va_A (wd_9977c0 k n_t n_letters v_length r_letters) sz) := by
  refine g_entry (cc := cX4_append) (maxL := 2) (ret := (some .boolean)) (lv := [(0, .ref n_t), (1, .int x1)]) (by decide +kernel) rfl (Nat.le_of_ble_eq_true rfl) rfl (fun p e s m below meth c ls hx hb hr hml hts hown hlk hnm hsz hG hA hP hD hS hl => ?_)
  exact k_X4_append hx hb hml hts hown hG hA n_t n_letters v_length r_letters x1 o_r o_v_length o_r_letters (fun pc H locs ls v q_v_length q_r_letters hd ho hz hP hD hS => by cases ho; exact g_iretz hx hb hr hlk hP hD hS hz hd) s.heap [] ls hl hP hD hS hm
end
section
set_option maxHeartbeats 4000000 in
set_option maxRecDepth 100000 in
theorem k_X4_letterAt {p : Program} {l : Launch} {e : Env} {s : State} {m : MethodId} {args : Array Value} {below : List Frame} {meth : Method} {c : Code} {A : Nat → Prop} {Q : State → Prop} {dC : Nat → ClassId} {dI : Nat → Nat → Nat} {k : Nat → ClassId} (hx : p.tables.exec = Jvm.exec) (hb : c.code = cX4_letterAt) (hml : c.maxLocals = 2) (hts : ∀ w ∈ wsX4_letterAt, w.before args s = true) (hown : s.vm.findClass RX4 = some m.cls) (hG : gK dC dI k A s) (hA : ∀ q : Nat, s.heap.size ≤ q → A q) (n_t n_letters : Nat) (v_length : Int32) (r_letters : Nat → Int32) (x1 : Int32) (o_r : Int32) (RET : ∀ (pc : Nat) (H : Heap) (locs : List Loc) (ls : Array Slot) (v : Int32), decode cX4_letterAt pc = .ok (.ireturn, 1) → some v = some o_r → narrow .char (.int v) = .int v → va_P (dC, dI) vwCl (wd_9977c0 k n_t n_letters v_length r_letters) H → va_D A (wd_9977c0 k n_t n_letters v_length r_letters) → va_S A s.heap H locs → W p l e rm_X4_letterAt s m args below meth c H locs 0 0 Q (F0 m pc ls [.int v])) (H : Heap) (locs : List Loc) (ls : Array Slot) (hl : lv_has ls 2 [(0, .ref n_t), (1, .int x1)]) (hP : va_P (dC, dI) vwCl (wd_9977c0 k n_t n_letters v_length r_letters) H) (hD : va_D A (wd_9977c0 k n_t n_letters v_length r_letters)) (hS : va_S A s.heap H locs) (hm : f_X4_letterAt x1 v_length r_letters = some o_r) : W p l e rm_X4_letterAt s m args below meth c H locs 0 0 Q (F0 m 0 ls []) := by
  have hinX4 : ∀ w ∈ u_ws RX4 TX4 2, w ∈ wsX4_letterAt := by decide +kernel
  have k0 := hts (.fieldLink RX4 15 "CaveLegs$Text" "length" "I") (by decide +kernel)
  have k1 := hts (.fieldLink RX4 9 "CaveLegs$Text" "letters" "[C") (by decide +kernel)
  unfold f_X4_letterAt at hm
  refine lv_iload_n hx hb dX4_letterAt_0 rfl (lv_at hl 1 rfl) ?_
  refine lv_if_lt (tgt := 30) hx hb dX4_letterAt_1 (by decide) (fun c1 => ?_) (fun c1 => ?_)
  · replace hm := ifp c1 hm
    refine lv_iconst (v := (0 : Int32)) hx hb dX4_letterAt_30 (by decide) ?_
    exact RET _ _ _ _ _ dX4_letterAt_31 hm (by decide +kernel) hP hD hS
  · replace hm := ifn c1 hm
    refine lv_iload_n hx hb dX4_letterAt_4 rfl (lv_at hl 1 rfl) ?_
    refine lv_aload_n hx hb dX4_letterAt_5 rfl (lv_at hl 0 rfl) ?_
    refine va_get (D := (dC, dI)) (ci := 4) (v := .int v_length) (C := RX4) (T := TX4) (N := 2) hx hb hts hinX4 hown hG.1 hP 0 rfl rfl 1 (by decide) k0 (fun _ h9 => h9) rfl dX4_letterAt_6 ?_
    refine lv_icmp_ge (tgt := 30) hx hb dX4_letterAt_9 (by decide) (fun c2 => ?_) (fun c2 => ?_)
    · replace hm := ifp c2 hm
      refine lv_iconst (v := (0 : Int32)) hx hb dX4_letterAt_30 (by decide) ?_
      exact RET _ _ _ _ _ dX4_letterAt_31 hm (by decide +kernel) hP hD hS
    · replace hm := ifn c2 hm
      refine lv_iload_n hx hb dX4_letterAt_12 rfl (lv_at hl 1 rfl) ?_
      refine lv_aload_n hx hb dX4_letterAt_13 rfl (lv_at hl 0 rfl) ?_
      refine va_get (D := (dC, dI)) (ci := 4) (v := .ref n_letters) (C := RX4) (T := TX4) (N := 2) hx hb hts hinX4 hown hG.1 hP 0 rfl rfl 0 (by decide) k1 (fun _ h9 => h9) rfl dX4_letterAt_14 ?_
      refine va_alen (v := (70 : Int32)) hx hb hG.1 hP 1 2 rfl rfl rfl dX4_letterAt_17 ?_
      refine lv_icmp_ge (tgt := 30) hx hb dX4_letterAt_18 (by decide) (fun c3 => ?_) (fun c3 => ?_)
      · replace hm := ifp c3 hm
        refine lv_iconst (v := (0 : Int32)) hx hb dX4_letterAt_30 (by decide) ?_
        exact RET _ _ _ _ _ dX4_letterAt_31 hm (by decide +kernel) hP hD hS
      · replace hm := ifn c3 hm
        refine lv_aload_n hx hb dX4_letterAt_21 rfl (lv_at hl 0 rfl) ?_
        refine va_get (D := (dC, dI)) (ci := 4) (v := .ref n_letters) (C := RX4) (T := TX4) (N := 2) hx hb hts hinX4 hown hG.1 hP 0 rfl rfl 0 (by decide) k1 (fun _ h9 => h9) rfl dX4_letterAt_22 ?_
        refine lv_iload_n hx hb dX4_letterAt_25 rfl (lv_at hl 1 rfl) ?_
        obtain ⟨hi4, hm⟩ := chk_some hm
        refine va_cald hx hb hG.1 hP 1 2 rfl rfl hi4 dX4_letterAt_26 ?_
        refine lv_goto (tgt := 31) hx hb dX4_letterAt_27 (by decide) ?_
        obtain ⟨hz5, hm⟩ := chkC_some hm
        exact RET _ _ _ _ _ dX4_letterAt_31 hm hz5 hP hD hS
set_option maxRecDepth 100000 in
theorem m_X4_letterAt (l : Launch) (dC : Nat → ClassId) (dI : Nat → Nat → Nat) (k : Nat → ClassId) (sz : Nat) (n_t n_letters : Nat) (v_length : Int32) (r_letters : Nat → Int32) (x1 : Int32) {o_r : Int32} (hm : f_X4_letterAt x1 v_length r_letters = some o_r) : Met l yX4_letterAt wsX4_letterAt rm_X4_letterAt (gPre dC dI k [.ref n_t, .int x1] sz (wd_9977c0 k n_t n_letters v_length r_letters)) (gQI dC dI (va_A (wd_9977c0 k n_t n_letters v_length r_letters) sz) o_r (wd_9977c0 k n_t n_letters v_length r_letters)) 0 0 (va_A (wd_9977c0 k n_t n_letters v_length r_letters) sz) := by
  refine g_entry (cc := cX4_letterAt) (maxL := 2) (ret := (some .char)) (lv := [(0, .ref n_t), (1, .int x1)]) (by decide +kernel) rfl (Nat.le_of_ble_eq_true rfl) rfl (fun p e s m below meth c ls hx hb hr hml hts hown hlk hnm hsz hG hA hP hD hS hl => ?_)
  exact k_X4_letterAt hx hb hml hts hown hG hA n_t n_letters v_length r_letters x1 o_r (fun pc H locs ls v hd ho hz hP hD hS => by cases ho; exact g_iretz hx hb hr hlk hP hD hS hz hd) s.heap [] ls hl hP hD hS hm
end
section
set_option maxHeartbeats 4000000 in
set_option maxRecDepth 100000 in
theorem k_X4_value {p : Program} {l : Launch} {e : Env} {s : State} {m : MethodId} {args : Array Value} {below : List Frame} {meth : Method} {c : Code} {A : Nat → Prop} {Q : State → Prop} {dC : Nat → ClassId} {dI : Nat → Nat → Nat} {k : Nat → ClassId} (hx : p.tables.exec = Jvm.exec) (hb : c.code = cX4_value) (hml : c.maxLocals = 3) (hts : ∀ w ∈ wsX4_value, w.before args s = true) (hown : s.vm.findClass RX4 = some m.cls) (hG : gK dC dI k A s) (hA : ∀ q : Nat, s.heap.size ≤ q → A q) (n_t n_letters : Nat) (v_length : Int32) (r_letters : Nat → Int32) (x1 : Int32) (o_r : Int32) (RET : ∀ (pc : Nat) (H : Heap) (locs : List Loc) (ls : Array Slot) (v : Int32), decode cX4_value pc = .ok (.ireturn, 1) → some v = some o_r → va_P (dC, dI) vwCl (wd_9977c0 k n_t n_letters v_length r_letters) H → va_D A (wd_9977c0 k n_t n_letters v_length r_letters) → va_S A s.heap H locs → W p l e rm_X4_value s m args below meth c H locs 0 0 Q (F0 m pc ls [.int v])) (H : Heap) (locs : List Loc) (ls : Array Slot) (hl : lv_has ls 3 [(0, .ref n_t), (1, .int x1)]) (hP : va_P (dC, dI) vwCl (wd_9977c0 k n_t n_letters v_length r_letters) H) (hD : va_D A (wd_9977c0 k n_t n_letters v_length r_letters)) (hS : va_S A s.heap H locs) (hm : f_X4_value x1 v_length r_letters = some o_r) : W p l e rm_X4_value s m args below meth c H locs 0 0 Q (F0 m 0 ls []) := by
  have J_23 : ∀ (x2 : Int32) (H : Heap) (locs : List Loc) (ls : Array Slot), lv_has ls 3 [(2, .int x2)] → va_P (dC, dI) vwCl (wd_9977c0 k n_t n_letters v_length r_letters) H → va_D A (wd_9977c0 k n_t n_letters v_length r_letters) → va_S A s.heap H locs → f_X4_value_J23 v_length r_letters x2 = some o_r → W p l e rm_X4_value s m args below meth c H locs 0 0 Q (F0 m 23 ls []) := by
    intro x2 H locs ls hl hP hD hS hm
    unfold f_X4_value_J23 at hm
    refine lv_iload_n hx hb dX4_value_23 rfl (lv_at hl 0 rfl) ?_
    refine lv_bipush (v := (97 : Int32)) hx hb dX4_value_24 (by decide) ?_
    refine lv_icmp_ne (tgt := 34) hx hb dX4_value_26 (by decide) (fun c1 => ?_) (fun c1 => ?_)
    · replace hm := ifn c1 hm
      refine lv_iload_n hx hb dX4_value_34 rfl (lv_at hl 0 rfl) ?_
      refine lv_bipush (v := (98 : Int32)) hx hb dX4_value_35 (by decide) ?_
      refine lv_icmp_ne (tgt := 45) hx hb dX4_value_37 (by decide) (fun c2 => ?_) (fun c2 => ?_)
      · replace hm := ifn c2 hm
        refine lv_iconst (v := (-1 : Int32)) hx hb dX4_value_45 (by decide) ?_
        exact RET _ _ _ _ _ dX4_value_46 hm hP hD hS
      · replace hm := ifp c2 hm
        refine lv_bipush (v := (11 : Int32)) hx hb dX4_value_40 (by decide) ?_
        refine lv_goto (tgt := 46) hx hb dX4_value_42 (by decide) ?_
        exact RET _ _ _ _ _ dX4_value_46 hm hP hD hS
    · replace hm := ifp c1 hm
      refine lv_bipush (v := (10 : Int32)) hx hb dX4_value_29 (by decide) ?_
      refine lv_goto (tgt := 46) hx hb dX4_value_31 (by decide) ?_
      exact RET _ _ _ _ _ dX4_value_46 hm hP hD hS
  unfold f_X4_value at hm
  refine lv_aload_n hx hb dX4_value_0 rfl (lv_at hl 0 rfl) ?_
  refine lv_iload_n hx hb dX4_value_1 rfl (lv_at hl 1 rfl) ?_
  obtain ⟨r3, e4, hm⟩ := bnd1_some hm
  refine g_calli (w2 := (wd_9977c0 k n_t n_letters v_length r_letters)) (va_runV (As := [.int x1]) (rest := []) ⟨hx, hb, hml, hown, hts⟩ (m_X4_letterAt l dC dI k H.size n_t n_letters v_length r_letters x1 e4) (cwV 1 hts gX4_value_X4_letterAt rfl rfl rfl (by decide +kernel) ⟨Nat.le_of_ble_eq_true rfl, Nat.le_of_ble_eq_true rfl⟩) (g_preV hG hP hD hS hA [0, 1] rfl (by decide) (ci := 4) (q0 := 0) rfl rfl) rfl rfl hl.1 rfl (lv_room (Nat.le_of_ble_eq_true rfl)) dX4_value_2 ⟨Nat.le_of_ble_eq_true rfl, Nat.le_of_ble_eq_true rfl⟩) hP hD hS hA [0, 1] [] [0, 1] rfl rfl (by decide) (by decide) rfl (by decide) (fun H locs hP hD hS => ?_)
  refine lv_istore_n (lv' := [(2, .int r3), (0, .ref n_t), (1, .int x1)]) hx hb dX4_value_5 rfl hl (by decide) rfl (fun ls hl => ?_)
  refine lv_iload_n hx hb dX4_value_6 rfl (lv_at hl 0 rfl) ?_
  refine lv_bipush (v := (48 : Int32)) hx hb dX4_value_7 (by decide) ?_
  refine lv_icmp_lt (tgt := 23) hx hb dX4_value_9 (by decide) (fun c5 => ?_) (fun c5 => ?_)
  · replace hm := ifp c5 hm
    exact J_23 _ _ _ _ (lv_sub hl [0] rfl) hP hD hS hm
  · replace hm := ifn c5 hm
    refine lv_iload_n hx hb dX4_value_12 rfl (lv_at hl 0 rfl) ?_
    refine lv_bipush (v := (57 : Int32)) hx hb dX4_value_13 (by decide) ?_
    refine lv_icmp_gt (tgt := 23) hx hb dX4_value_15 (by decide) (fun c6 => ?_) (fun c6 => ?_)
    · replace hm := ifp c6 hm
      exact J_23 _ _ _ _ (lv_sub hl [0] rfl) hP hD hS hm
    · replace hm := ifn c6 hm
      refine lv_iload_n hx hb dX4_value_18 rfl (lv_at hl 0 rfl) ?_
      refine lv_bipush (v := (48 : Int32)) hx hb dX4_value_19 (by decide) ?_
      refine lv_isub hx hb dX4_value_21 ?_
      exact RET _ _ _ _ _ dX4_value_22 hm hP hD hS
set_option maxRecDepth 100000 in
theorem m_X4_value (l : Launch) (dC : Nat → ClassId) (dI : Nat → Nat → Nat) (k : Nat → ClassId) (sz : Nat) (n_t n_letters : Nat) (v_length : Int32) (r_letters : Nat → Int32) (x1 : Int32) {o_r : Int32} (hm : f_X4_value x1 v_length r_letters = some o_r) : Met l yX4_value wsX4_value rm_X4_value (gPre dC dI k [.ref n_t, .int x1] sz (wd_9977c0 k n_t n_letters v_length r_letters)) (gQI dC dI (va_A (wd_9977c0 k n_t n_letters v_length r_letters) sz) o_r (wd_9977c0 k n_t n_letters v_length r_letters)) 0 0 (va_A (wd_9977c0 k n_t n_letters v_length r_letters) sz) := by
  refine g_entry (cc := cX4_value) (maxL := 3) (ret := (some .int)) (lv := [(0, .ref n_t), (1, .int x1)]) (by decide +kernel) rfl (Nat.le_of_ble_eq_true rfl) rfl (fun p e s m below meth c ls hx hb hr hml hts hown hlk hnm hsz hG hA hP hD hS hl => ?_)
  exact k_X4_value hx hb hml hts hown hG hA n_t n_letters v_length r_letters x1 o_r (fun pc H locs ls v hd ho hP hD hS => by cases ho; exact g_ireti hx hb hr hlk hP hD hS hd) s.heap [] ls hl hP hD hS hm
end
