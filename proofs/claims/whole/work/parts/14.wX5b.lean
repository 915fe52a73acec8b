section
set_option maxHeartbeats 4000000 in
set_option maxRecDepth 100000 in
theorem k_X5_see {p : Program} {l : Launch} {e : Env} {s : State} {m : MethodId} {args : Array Value} {below : List Frame} {meth : Method} {c : Code} {A : Nat → Prop} {Q : State → Prop} {dC : Nat → ClassId} {dI : Nat → Nat → Nat} {k : Nat → ClassId} (hx : p.tables.exec = Jvm.exec) (hb : c.code = cX5_see) (hml : c.maxLocals = 5) (hts : ∀ w ∈ wsX5_see, w.before args s = true) (hown : s.vm.findClass RX5 = some m.cls) (hG : gK dC dI k A s) (hA : ∀ q : Nat, s.heap.size ≤ q → A q) (n_t n_text n_now n_past n_slots n_sightings n_survey n_trial n_now_rows n_sightings_rows : Nat) (v_filledSlots : Int32) (v_seedNow : Int64) (v_now_size : Int32) (v_now_stations : Int32) (v_sightings_size : Int32) (r_sightings_rows : Nat → Int32) (x1 : Int32) (x2 : Int32) (x3 : Int32) (x4 : Int32) (o_r : Int32) (o_v_sightings_size : (Int32)) (o_r_sightings_rows : (Nat → Int32)) (RET : ∀ (pc : Nat) (H : Heap) (locs : List Loc) (ls : Array Slot) (v : Int32) (q_v_sightings_size : Int32) (q_r_sightings_rows : Nat → Int32), decode cX5_see pc = .ok (.ireturn, 1) → some (v, q_v_sightings_size, q_r_sightings_rows) = some (o_r, o_v_sightings_size, o_r_sightings_rows) → va_P (dC, dI) vwCl (wd_8db8be k n_t n_text n_now n_past n_slots n_sightings n_survey n_trial n_now_rows n_sightings_rows v_filledSlots v_seedNow v_now_size v_now_stations q_v_sightings_size q_r_sightings_rows) H → va_D A (wd_8db8be k n_t n_text n_now n_past n_slots n_sightings n_survey n_trial n_now_rows n_sightings_rows v_filledSlots v_seedNow v_now_size v_now_stations q_v_sightings_size q_r_sightings_rows) → va_S A s.heap H locs → W p l e rm_X5_see s m args below meth c H locs 0 0 Q (F0 m pc ls [.int v])) (H : Heap) (locs : List Loc) (ls : Array Slot) (hl : lv_has ls 5 [(0, .ref n_t), (1, .int x1), (2, .int x2), (3, .int x3), (4, .int x4)]) (hP : va_P (dC, dI) vwCl (wd_8db8be k n_t n_text n_now n_past n_slots n_sightings n_survey n_trial n_now_rows n_sightings_rows v_filledSlots v_seedNow v_now_size v_now_stations v_sightings_size r_sightings_rows) H) (hD : va_D A (wd_8db8be k n_t n_text n_now n_past n_slots n_sightings n_survey n_trial n_now_rows n_sightings_rows v_filledSlots v_seedNow v_now_size v_now_stations v_sightings_size r_sightings_rows)) (hS : va_S A s.heap H locs) (hm : f_X5_see x1 x2 x3 x4 v_now_stations v_sightings_size r_sightings_rows = some (o_r, o_v_sightings_size, o_r_sightings_rows)) : W p l e rm_X5_see s m args below meth c H locs 0 0 Q (F0 m 0 ls []) := by
  have hinX2 : ∀ w ∈ u_ws RX2 TX2 2, w ∈ wsX5_see := by decide +kernel
  have hinX5 : ∀ w ∈ u_ws RX5 TX5 9, w ∈ wsX5_see := by decide +kernel
  have k0 := hts (.fieldLink RX5 19 "CaveLegs" "now" "LCaveLegs$Legs;") (by decide +kernel)
  have k1 := hts (.fieldLink RX5 37 "CaveLegs" "sightings" "LCaveLegs$Sightings;") (by decide +kernel)
  have k2 := hts (.fieldLink RX5 209 "CaveLegs$Sightings" "size" "I") (by decide +kernel)
  unfold f_X5_see at hm
  refine lv_aload_n hx hb dX5_see_0 rfl (lv_at hl 0 rfl) ?_
  refine va_get (D := (dC, dI)) (ci := 5) (v := .ref n_now) (C := RX5) (T := TX5) (N := 9) hx hb hts hinX5 hown hG.1 hP 0 rfl rfl 1 (by decide) k0 (fun _ h9 => h9) rfl dX5_see_1 ?_
  refine lv_iload_n hx hb dX5_see_4 rfl (lv_at hl 1 rfl) ?_
  obtain ⟨r1, e2, hm⟩ := bnd1_some hm
  refine g_calli (w2 := (wd_8db8be k n_t n_text n_now n_past n_slots n_sightings n_survey n_trial n_now_rows n_sightings_rows v_filledSlots v_seedNow v_now_size v_now_stations v_sightings_size r_sightings_rows)) (va_runV (As := [.int x1]) (rest := []) ⟨hx, hb, hml, hown, hts⟩ (m_X0_hasStation l dC dI k H.size n_now n_now_rows v_now_size v_now_stations x1 e2) (cwV 1 hts gX5_see_X0_hasStation rfl rfl rfl (by decide +kernel) ⟨Nat.le_of_ble_eq_true rfl, Nat.le_of_ble_eq_true rfl⟩) (g_preV hG hP hD hS hA [1] rfl (by decide) (ci := 0) (q0 := 1) rfl rfl) rfl rfl hl.1 rfl (lv_room (Nat.le_of_ble_eq_true rfl)) dX5_see_5 ⟨Nat.le_of_ble_eq_true rfl, Nat.le_of_ble_eq_true rfl⟩) hP hD hS hA [1] [0, 2, 3] [0, 3, 1, 2] rfl rfl (by decide) (by decide) rfl (by decide) (fun H locs hP hD hS => ?_)
  refine lv_if_eq (tgt := 22) hx hb dX5_see_8 (by decide) (fun c3 => ?_) (fun c3 => ?_)
  · replace hm := ifp c3 hm
    refine lv_iconst (v := (-1 : Int32)) hx hb dX5_see_22 (by decide) ?_
    exact RET _ _ _ _ _ _ _ dX5_see_23 hm hP hD hS
  · replace hm := ifn c3 hm
    refine lv_aload_n hx hb dX5_see_11 rfl (lv_at hl 0 rfl) ?_
    refine va_get (D := (dC, dI)) (ci := 5) (v := .ref n_now) (C := RX5) (T := TX5) (N := 9) hx hb hts hinX5 hown hG.1 hP 0 rfl rfl 1 (by decide) k0 (fun _ h9 => h9) rfl dX5_see_12 ?_
    refine lv_iload_n hx hb dX5_see_15 rfl (lv_at hl 2 rfl) ?_
    obtain ⟨r4, e5, hm⟩ := bnd1_some hm
    refine g_calli (w2 := (wd_8db8be k n_t n_text n_now n_past n_slots n_sightings n_survey n_trial n_now_rows n_sightings_rows v_filledSlots v_seedNow v_now_size v_now_stations v_sightings_size r_sightings_rows)) (va_runV (As := [.int x2]) (rest := []) ⟨hx, hb, hml, hown, hts⟩ (m_X0_hasStation l dC dI k H.size n_now n_now_rows v_now_size v_now_stations x2 e5) (cwV 1 hts gX5_see_X0_hasStation rfl rfl rfl (by decide +kernel) ⟨Nat.le_of_ble_eq_true rfl, Nat.le_of_ble_eq_true rfl⟩) (g_preV hG hP hD hS hA [1] rfl (by decide) (ci := 0) (q0 := 1) rfl rfl) rfl rfl hl.1 rfl (lv_room (Nat.le_of_ble_eq_true rfl)) dX5_see_16 ⟨Nat.le_of_ble_eq_true rfl, Nat.le_of_ble_eq_true rfl⟩) hP hD hS hA [1] [0, 2, 3] [0, 3, 1, 2] rfl rfl (by decide) (by decide) rfl (by decide) (fun H locs hP hD hS => ?_)
    refine lv_if_ne (tgt := 24) hx hb dX5_see_19 (by decide) (fun c6 => ?_) (fun c6 => ?_)
    · replace hm := ifn c6 hm
      refine lv_iload_n hx hb dX5_see_24 rfl (lv_at hl 3 rfl) ?_
      refine lv_if_lt (tgt := 45) hx hb dX5_see_25 (by decide) (fun c7 => ?_) (fun c7 => ?_)
      · replace hm := ifp c7 hm
        refine lv_bipush (v := (-2 : Int32)) hx hb dX5_see_45 (by decide) ?_
        exact RET _ _ _ _ _ _ _ dX5_see_47 hm hP hD hS
      · replace hm := ifn c7 hm
        refine lv_iload_n hx hb dX5_see_28 rfl (lv_at hl 3 rfl) ?_
        refine lv_bipush (v := (10 : Int32)) hx hb dX5_see_29 (by decide) ?_
        refine lv_icmp_gt (tgt := 45) hx hb dX5_see_31 (by decide) (fun c8 => ?_) (fun c8 => ?_)
        · replace hm := ifp c8 hm
          refine lv_bipush (v := (-2 : Int32)) hx hb dX5_see_45 (by decide) ?_
          exact RET _ _ _ _ _ _ _ dX5_see_47 hm hP hD hS
        · replace hm := ifn c8 hm
          refine lv_iload hx hb dX5_see_34 (lv_at hl 4 rfl) ?_
          refine lv_if_lt (tgt := 45) hx hb dX5_see_36 (by decide) (fun c9 => ?_) (fun c9 => ?_)
          · replace hm := ifp c9 hm
            refine lv_bipush (v := (-2 : Int32)) hx hb dX5_see_45 (by decide) ?_
            exact RET _ _ _ _ _ _ _ dX5_see_47 hm hP hD hS
          · replace hm := ifn c9 hm
            refine lv_iload hx hb dX5_see_39 (lv_at hl 4 rfl) ?_
            refine lv_iconst (v := (1 : Int32)) hx hb dX5_see_41 (by decide) ?_
            refine lv_icmp_le (tgt := 48) hx hb dX5_see_42 (by decide) (fun c10 => ?_) (fun c10 => ?_)
            · replace hm := ifp c10 hm
              refine lv_aload_n hx hb dX5_see_48 rfl (lv_at hl 0 rfl) ?_
              refine va_get (D := (dC, dI)) (ci := 5) (v := .ref n_sightings) (C := RX5) (T := TX5) (N := 9) hx hb hts hinX5 hown hG.1 hP 0 rfl rfl 4 (by decide) k1 (fun _ h9 => h9) rfl dX5_see_49 ?_
              refine lv_iload_n hx hb dX5_see_52 rfl (lv_at hl 1 rfl) ?_
              refine lv_iload_n hx hb dX5_see_53 rfl (lv_at hl 2 rfl) ?_
              refine lv_iload_n hx hb dX5_see_54 rfl (lv_at hl 3 rfl) ?_
              refine lv_iload hx hb dX5_see_55 (lv_at hl 4 rfl) ?_
              obtain ⟨r11, w12, w13, e14, hm⟩ := bnd3_some hm
              refine g_calli (w2 := (wd_8db8be k n_t n_text n_now n_past n_slots n_sightings n_survey n_trial n_now_rows n_sightings_rows v_filledSlots v_seedNow v_now_size v_now_stations w12 w13)) (va_runV (As := [.int x1, .int x2, .int x3, .int x4]) (rest := []) ⟨hx, hb, hml, hown, hts⟩ (m_X2_add l dC dI k H.size n_sightings n_sightings_rows v_sightings_size r_sightings_rows x1 x2 x3 x4 e14) (cwV 4 hts gX5_see_X2_add rfl rfl rfl (by decide +kernel) ⟨Nat.le_of_ble_eq_true rfl, Nat.le_of_ble_eq_true rfl⟩) (g_preV hG hP hD hS hA [2, 3] rfl (by decide) (ci := 2) (q0 := 2) rfl rfl) rfl rfl hl.1 rfl (lv_room (Nat.le_of_ble_eq_true rfl)) dX5_see_57 ⟨Nat.le_of_ble_eq_true rfl, Nat.le_of_ble_eq_true rfl⟩) hP hD hS hA [2, 3] [0, 1] [0, 1, 2, 3] rfl rfl (by decide) (by decide) rfl (by decide) (fun H locs hP hD hS => ?_)
              refine lv_if_eq (tgt := 73) hx hb dX5_see_60 (by decide) (fun c15 => ?_) (fun c15 => ?_)
              · replace hm := ifp c15 hm
                refine lv_bipush (v := (-4 : Int32)) hx hb dX5_see_73 (by decide) ?_
                exact RET _ _ _ _ _ _ _ dX5_see_75 hm hP hD hS
              · replace hm := ifn c15 hm
                refine lv_aload_n hx hb dX5_see_63 rfl (lv_at hl 0 rfl) ?_
                refine va_get (D := (dC, dI)) (ci := 5) (v := .ref n_sightings) (C := RX5) (T := TX5) (N := 9) hx hb hts hinX5 hown hG.1 hP 0 rfl rfl 4 (by decide) k1 (fun _ h9 => h9) rfl dX5_see_64 ?_
                refine va_get (D := (dC, dI)) (ci := 2) (v := .int w12) (C := RX2) (T := TX2) (N := 2) hx hb hts hinX2 hown hG.1 hP 2 rfl rfl 1 (by decide) k2 (fun _ h9 => h9) rfl dX5_see_67 ?_
                refine lv_goto (tgt := 75) hx hb dX5_see_70 (by decide) ?_
                exact RET _ _ _ _ _ _ _ dX5_see_75 hm hP hD hS
            · replace hm := ifn c10 hm
              refine lv_bipush (v := (-2 : Int32)) hx hb dX5_see_45 (by decide) ?_
              exact RET _ _ _ _ _ _ _ dX5_see_47 hm hP hD hS
    · replace hm := ifp c6 hm
      refine lv_iconst (v := (-1 : Int32)) hx hb dX5_see_22 (by decide) ?_
      exact RET _ _ _ _ _ _ _ dX5_see_23 hm hP hD hS
set_option maxRecDepth 100000 in
theorem m_X5_see (l : Launch) (dC : Nat → ClassId) (dI : Nat → Nat → Nat) (k : Nat → ClassId) (sz : Nat) (n_t n_text n_now n_past n_slots n_sightings n_survey n_trial n_now_rows n_sightings_rows : Nat) (v_filledSlots : Int32) (v_seedNow : Int64) (v_now_size : Int32) (v_now_stations : Int32) (v_sightings_size : Int32) (r_sightings_rows : Nat → Int32) (x1 : Int32) (x2 : Int32) (x3 : Int32) (x4 : Int32) {o_r : Int32} {o_v_sightings_size : (Int32)} {o_r_sightings_rows : (Nat → Int32)} (hm : f_X5_see x1 x2 x3 x4 v_now_stations v_sightings_size r_sightings_rows = some (o_r, o_v_sightings_size, o_r_sightings_rows)) : Met l yX5_see wsX5_see rm_X5_see (gPre dC dI k [.ref n_t, .int x1, .int x2, .int x3, .int x4] sz (wd_8db8be k n_t n_text n_now n_past n_slots n_sightings n_survey n_trial n_now_rows n_sightings_rows v_filledSlots v_seedNow v_now_size v_now_stations v_sightings_size r_sightings_rows)) (gQI dC dI (va_A (wd_8db8be k n_t n_text n_now n_past n_slots n_sightings n_survey n_trial n_now_rows n_sightings_rows v_filledSlots v_seedNow v_now_size v_now_stations v_sightings_size r_sightings_rows) sz) o_r (wd_8db8be k n_t n_text n_now n_past n_slots n_sightings n_survey n_trial n_now_rows n_sightings_rows v_filledSlots v_seedNow v_now_size v_now_stations o_v_sightings_size o_r_sightings_rows)) 0 0 (va_A (wd_8db8be k n_t n_text n_now n_past n_slots n_sightings n_survey n_trial n_now_rows n_sightings_rows v_filledSlots v_seedNow v_now_size v_now_stations v_sightings_size r_sightings_rows) sz) := by
  refine g_entry (cc := cX5_see) (maxL := 5) (ret := (some .int)) (lv := [(0, .ref n_t), (1, .int x1), (2, .int x2), (3, .int x3), (4, .int x4)]) (by decide +kernel) rfl (Nat.le_of_ble_eq_true rfl) rfl (fun p e s m below meth c ls hx hb hr hml hts hown hlk hnm hsz hG hA hP hD hS hl => ?_)
  exact k_X5_see hx hb hml hts hown hG hA n_t n_text n_now n_past n_slots n_sightings n_survey n_trial n_now_rows n_sightings_rows v_filledSlots v_seedNow v_now_size v_now_stations v_sightings_size r_sightings_rows x1 x2 x3 x4 o_r o_v_sightings_size o_r_sightings_rows (fun pc H locs ls v q_v_sightings_size q_r_sightings_rows hd ho hP hD hS => by cases ho; exact g_ireti hx hb hr hlk hP hD hS hd) s.heap [] ls hl hP hD hS hm
end
section
set_option maxHeartbeats 4000000 in
set_option maxRecDepth 100000 in
theorem k_X5_unsee {p : Program} {l : Launch} {e : Env} {s : State} {m : MethodId} {args : Array Value} {below : List Frame} {meth : Method} {c : Code} {A : Nat → Prop} {Q : State → Prop} {dC : Nat → ClassId} {dI : Nat → Nat → Nat} {k : Nat → ClassId} (hx : p.tables.exec = Jvm.exec) (hb : c.code = cX5_unsee) (hml : c.maxLocals = 2) (hts : ∀ w ∈ wsX5_unsee, w.before args s = true) (hown : s.vm.findClass RX5 = some m.cls) (hG : gK dC dI k A s) (hA : ∀ q : Nat, s.heap.size ≤ q → A q) (n_t n_text n_now n_past n_slots n_sightings n_survey n_trial n_sightings_rows : Nat) (v_filledSlots : Int32) (v_seedNow : Int64) (v_sightings_size : Int32) (o_r : Int32) (o_v_sightings_size : (Int32)) (RET : ∀ (pc : Nat) (H : Heap) (locs : List Loc) (ls : Array Slot) (v : Int32) (q_v_sightings_size : Int32), decode cX5_unsee pc = .ok (.ireturn, 1) → some (v, q_v_sightings_size) = some (o_r, o_v_sightings_size) → va_P (dC, dI) vwCl (wd_6bb4cd k n_t n_text n_now n_past n_slots n_sightings n_survey n_trial n_sightings_rows v_filledSlots v_seedNow q_v_sightings_size) H → va_D A (wd_6bb4cd k n_t n_text n_now n_past n_slots n_sightings n_survey n_trial n_sightings_rows v_filledSlots v_seedNow q_v_sightings_size) → va_S A s.heap H locs → W p l e rm_X5_unsee s m args below meth c H locs 0 0 Q (F0 m pc ls [.int v])) (H : Heap) (locs : List Loc) (ls : Array Slot) (hl : lv_has ls 2 [(0, .ref n_t)]) (hP : va_P (dC, dI) vwCl (wd_6bb4cd k n_t n_text n_now n_past n_slots n_sightings n_survey n_trial n_sightings_rows v_filledSlots v_seedNow v_sightings_size) H) (hD : va_D A (wd_6bb4cd k n_t n_text n_now n_past n_slots n_sightings n_survey n_trial n_sightings_rows v_filledSlots v_seedNow v_sightings_size)) (hS : va_S A s.heap H locs) (hm : f_X5_unsee v_sightings_size = some (o_r, o_v_sightings_size)) : W p l e rm_X5_unsee s m args below meth c H locs 0 0 Q (F0 m 0 ls []) := by
  have hinX2 : ∀ w ∈ u_ws RX2 TX2 2, w ∈ wsX5_unsee := by decide +kernel
  have hinX5 : ∀ w ∈ u_ws RX5 TX5 9, w ∈ wsX5_unsee := by decide +kernel
  have k0 := hts (.fieldLink RX5 37 "CaveLegs" "sightings" "LCaveLegs$Sightings;") (by decide +kernel)
  have k1 := hts (.fieldLink RX5 209 "CaveLegs$Sightings" "size" "I") (by decide +kernel)
  unfold f_X5_unsee at hm
  refine lv_aload_n hx hb dX5_unsee_0 rfl (lv_at hl 0 rfl) ?_
  refine va_get (D := (dC, dI)) (ci := 5) (v := .ref n_sightings) (C := RX5) (T := TX5) (N := 9) hx hb hts hinX5 hown hG.1 hP 0 rfl rfl 4 (by decide) k0 (fun _ h9 => h9) rfl dX5_unsee_1 ?_
  refine va_get (D := (dC, dI)) (ci := 2) (v := .int v_sightings_size) (C := RX2) (T := TX2) (N := 2) hx hb hts hinX2 hown hG.1 hP 1 rfl rfl 1 (by decide) k1 (fun _ h9 => h9) rfl dX5_unsee_4 ?_
  refine lv_istore_n (lv' := [(1, .int v_sightings_size), (0, .ref n_t)]) hx hb dX5_unsee_7 rfl hl (by decide) rfl (fun ls hl => ?_)
  refine lv_aload_n hx hb dX5_unsee_8 rfl (lv_at hl 1 rfl) ?_
  refine va_get (D := (dC, dI)) (ci := 5) (v := .ref n_sightings) (C := RX5) (T := TX5) (N := 9) hx hb hts hinX5 hown hG.1 hP 0 rfl rfl 4 (by decide) k0 (fun _ h9 => h9) rfl dX5_unsee_9 ?_
  refine lv_iconst (v := (0 : Int32)) hx hb dX5_unsee_12 (by decide) ?_
  refine va_put (D := (dC, dI)) (ci := 2) (v := .int (0 : Int32)) (ty := .int) (C := RX2) (T := TX2) (N := 2) hx hb hts hinX2 tyX2 tyX2_ok nmX2 hown hG.1 hP hD hS 1 rfl rfl 1 (by decide) k1 (fun _ h9 => h9) rfl (by decide +kernel) rfl rfl (Nat.le_of_ble_eq_true rfl) dX5_unsee_13 (fun H locs hP hD hS => ?_)
  replace hP : va_P (dC, dI) vwCl (wd_6bb4cd k n_t n_text n_now n_past n_slots n_sightings n_survey n_trial n_sightings_rows v_filledSlots v_seedNow (0 : Int32)) H := hP
  replace hD : va_D A (wd_6bb4cd k n_t n_text n_now n_past n_slots n_sightings n_survey n_trial n_sightings_rows v_filledSlots v_seedNow (0 : Int32)) := hD
  refine lv_iload_n hx hb dX5_unsee_16 rfl (lv_at hl 0 rfl) ?_
  exact RET _ _ _ _ _ _ dX5_unsee_17 hm hP hD hS
set_option maxRecDepth 100000 in
theorem m_X5_unsee (l : Launch) (dC : Nat → ClassId) (dI : Nat → Nat → Nat) (k : Nat → ClassId) (sz : Nat) (n_t n_text n_now n_past n_slots n_sightings n_survey n_trial n_sightings_rows : Nat) (v_filledSlots : Int32) (v_seedNow : Int64) (v_sightings_size : Int32) {o_r : Int32} {o_v_sightings_size : (Int32)} (hm : f_X5_unsee v_sightings_size = some (o_r, o_v_sightings_size)) : Met l yX5_unsee wsX5_unsee rm_X5_unsee (gPre dC dI k [.ref n_t] sz (wd_6bb4cd k n_t n_text n_now n_past n_slots n_sightings n_survey n_trial n_sightings_rows v_filledSlots v_seedNow v_sightings_size)) (gQI dC dI (va_A (wd_6bb4cd k n_t n_text n_now n_past n_slots n_sightings n_survey n_trial n_sightings_rows v_filledSlots v_seedNow v_sightings_size) sz) o_r (wd_6bb4cd k n_t n_text n_now n_past n_slots n_sightings n_survey n_trial n_sightings_rows v_filledSlots v_seedNow o_v_sightings_size)) 0 0 (va_A (wd_6bb4cd k n_t n_text n_now n_past n_slots n_sightings n_survey n_trial n_sightings_rows v_filledSlots v_seedNow v_sightings_size) sz) := by
  refine g_entry (cc := cX5_unsee) (maxL := 2) (ret := (some .int)) (lv := [(0, .ref n_t)]) (by decide +kernel) rfl (Nat.le_of_ble_eq_true rfl) rfl (fun p e s m below meth c ls hx hb hr hml hts hown hlk hnm hsz hG hA hP hD hS hl => ?_)
  exact k_X5_unsee hx hb hml hts hown hG hA n_t n_text n_now n_past n_slots n_sightings n_survey n_trial n_sightings_rows v_filledSlots v_seedNow v_sightings_size o_r o_v_sightings_size (fun pc H locs ls v q_v_sightings_size hd ho hP hD hS => by cases ho; exact g_ireti hx hb hr hlk hP hD hS hd) s.heap [] ls hl hP hD hS hm
end
section
set_option maxHeartbeats 4000000 in
set_option maxRecDepth 100000 in
theorem k_X5_which {p : Program} {l : Launch} {e : Env} {s : State} {m : MethodId} {args : Array Value} {below : List Frame} {meth : Method} {c : Code} {A : Nat → Prop} {Q : State → Prop} {dC : Nat → ClassId} {dI : Nat → Nat → Nat} {k : Nat → ClassId} (hx : p.tables.exec = Jvm.exec) (hb : c.code = cX5_which) (hml : c.maxLocals = 4) (hts : ∀ w ∈ wsX5_which, w.before args s = true) (hown : s.vm.findClass RX5 = some m.cls) (hG : gK dC dI k A s) (hA : ∀ q : Nat, s.heap.size ≤ q → A q) (F : Nat) (n_t n_text n_now n_past n_slots n_sightings n_survey n_trial n_now_rows n_sightings_rows : Nat) (v_filledSlots : Int32) (v_seedNow : Int64) (v_now_size : Int32) (v_now_stations : Int32) (v_sightings_size : Int32) (r_now_rows : Nat → Int32) (r_sightings_rows : Nat → Int32) (o_r : Int32) (RET : ∀ (pc : Nat) (H : Heap) (locs : List Loc) (ls : Array Slot) (v : Int32), decode cX5_which pc = .ok (.ireturn, 1) → some v = some o_r → va_P (dC, dI) vwCl (wd_a64664 k n_t n_text n_now n_past n_slots n_sightings n_survey n_trial n_now_rows n_sightings_rows v_filledSlots v_seedNow v_now_size v_now_stations v_sightings_size r_now_rows r_sightings_rows) H → va_D A (wd_a64664 k n_t n_text n_now n_past n_slots n_sightings n_survey n_trial n_now_rows n_sightings_rows v_filledSlots v_seedNow v_now_size v_now_stations v_sightings_size r_now_rows r_sightings_rows) → va_S A s.heap H locs → W p l e rm_X5_which s m args below meth c H locs 0 0 Q (F0 m pc ls [.int v])) (H : Heap) (locs : List Loc) (ls : Array Slot) (hl : lv_has ls 4 [(0, .ref n_t)]) (hP : va_P (dC, dI) vwCl (wd_a64664 k n_t n_text n_now n_past n_slots n_sightings n_survey n_trial n_now_rows n_sightings_rows v_filledSlots v_seedNow v_now_size v_now_stations v_sightings_size r_now_rows r_sightings_rows) H) (hD : va_D A (wd_a64664 k n_t n_text n_now n_past n_slots n_sightings n_survey n_trial n_now_rows n_sightings_rows v_filledSlots v_seedNow v_now_size v_now_stations v_sightings_size r_now_rows r_sightings_rows)) (hS : va_S A s.heap H locs) (hm : f_X5_which F v_now_size v_now_stations r_now_rows v_sightings_size r_sightings_rows = some o_r) : W p l e rm_X5_which s m args below meth c H locs 0 0 Q (F0 m 0 ls []) := by
  have hinX0 : ∀ w ∈ u_ws RX0 TX0 3, w ∈ wsX5_which := by decide +kernel
  have hinX5 : ∀ w ∈ u_ws RX5 TX5 9, w ∈ wsX5_which := by decide +kernel
  have k0 := hts (.fieldLink RX5 19 "CaveLegs" "now" "LCaveLegs$Legs;") (by decide +kernel)
  have k1 := hts (.fieldLink RX5 73 "CaveLegs$Legs" "size" "I") (by decide +kernel)
  have k2 := hts (.fieldLink RX5 37 "CaveLegs" "sightings" "LCaveLegs$Sightings;") (by decide +kernel)
  have L_13 : ∀ (n13 : Nat) (x1 : Int32) (x2 : Int32) (x3 : Int32) (H : Heap) (locs : List Loc) (ls : Array Slot), lv_has ls 4 [(0, .ref n_t), (1, .int x1), (2, .int x2), (3, .int x3)] → va_P (dC, dI) vwCl (wd_a64664 k n_t n_text n_now n_past n_slots n_sightings n_survey n_trial n_now_rows n_sightings_rows v_filledSlots v_seedNow v_now_size v_now_stations v_sightings_size r_now_rows r_sightings_rows) H → va_D A (wd_a64664 k n_t n_text n_now n_past n_slots n_sightings n_survey n_trial n_now_rows n_sightings_rows v_filledSlots v_seedNow v_now_size v_now_stations v_sightings_size r_now_rows r_sightings_rows) → va_S A s.heap H locs → f_X5_which_L13 F v_now_size v_now_stations r_now_rows v_sightings_size r_sightings_rows n13 x1 x2 x3 = some o_r → W p l e rm_X5_which s m args below meth c H locs 0 0 Q (F0 m 13 ls []) := by
    intro n13
    induction n13 with
    | zero =>
      intro x1 x2 x3 H locs ls hl hP hD hS hm
      exact non_some hm
    | succ n13 ih13 =>
      have J_59 : ∀ (x1 : Int32) (x2 : Int32) (x3 : Int32) (H : Heap) (locs : List Loc) (ls : Array Slot), lv_has ls 4 [(0, .ref n_t), (1, .int x1), (2, .int x2), (3, .int x3)] → va_P (dC, dI) vwCl (wd_a64664 k n_t n_text n_now n_past n_slots n_sightings n_survey n_trial n_now_rows n_sightings_rows v_filledSlots v_seedNow v_now_size v_now_stations v_sightings_size r_now_rows r_sightings_rows) H → va_D A (wd_a64664 k n_t n_text n_now n_past n_slots n_sightings n_survey n_trial n_now_rows n_sightings_rows v_filledSlots v_seedNow v_now_size v_now_stations v_sightings_size r_now_rows r_sightings_rows) → va_S A s.heap H locs → f_X5_which_J59 F v_now_size v_now_stations r_now_rows v_sightings_size r_sightings_rows (f_X5_which_L13 F v_now_size v_now_stations r_now_rows v_sightings_size r_sightings_rows n13) x1 x2 x3 = some o_r → W p l e rm_X5_which s m args below meth c H locs 0 0 Q (F0 m 59 ls []) := by
        intro x1 x2 x3 H locs ls hl hP hD hS hm
        unfold f_X5_which_J59 at hm
        obtain ⟨t1, et1⟩ : ∃ y : Int32, y = x3 + (1 : Int32) := ⟨_, rfl⟩
        replace hm := (nmd_eq et1).trans hm
        refine lv_iinc (v := t1) (lv' := [(3, .int t1), (0, .ref n_t), (1, .int x1), (2, .int x2)]) hx hb dX5_which_59 hl (k := 3) rfl (by rw [et1]; rfl) (by decide) rfl (fun ls hl => ?_)
        refine lv_goto (tgt := 13) hx hb dX5_which_62 (by decide) ?_
        exact ih13 _ _ _ _ _ _ (lv_sub hl [1, 2, 3, 0] rfl) hP hD hS hm
      intro x1 x2 x3 H locs ls hl hP hD hS hm
      replace hm : f_X5_which_B13 F v_now_size v_now_stations r_now_rows v_sightings_size r_sightings_rows (f_X5_which_L13 F v_now_size v_now_stations r_now_rows v_sightings_size r_sightings_rows n13) x1 x2 x3 = some o_r := hm
      unfold f_X5_which_B13 at hm
      refine lv_iload_n hx hb dX5_which_13 rfl (lv_at hl 3 rfl) ?_
      refine lv_aload_n hx hb dX5_which_14 rfl (lv_at hl 0 rfl) ?_
      refine va_get (D := (dC, dI)) (ci := 5) (v := .ref n_now) (C := RX5) (T := TX5) (N := 9) hx hb hts hinX5 hown hG.1 hP 0 rfl rfl 1 (by decide) k0 (fun _ h9 => h9) rfl dX5_which_15 ?_
      refine va_get (D := (dC, dI)) (ci := 0) (v := .int v_now_size) (C := RX0) (T := TX0) (N := 3) hx hb hts hinX0 hown hG.1 hP 1 rfl rfl 1 (by decide) k1 (fun _ h9 => h9) rfl dX5_which_18 ?_
      refine lv_icmp_ge (tgt := 65) hx hb dX5_which_21 (by decide) (fun c2 => ?_) (fun c2 => ?_)
      · replace hm := ifp c2 hm
        refine lv_iload_n hx hb dX5_which_65 rfl (lv_at hl 2 rfl) ?_
        exact RET _ _ _ _ _ dX5_which_66 hm hP hD hS
      · replace hm := ifn c2 hm
        refine lv_iload_n hx hb dX5_which_24 rfl (lv_at hl 1 rfl) ?_
        refine lv_iload_n hx hb dX5_which_25 rfl (lv_at hl 3 rfl) ?_
        obtain ⟨r3, e4, hm⟩ := bnd1_some hm
        refine g_calli (w2 := (wd_a64664 k n_t n_text n_now n_past n_slots n_sightings n_survey n_trial n_now_rows n_sightings_rows v_filledSlots v_seedNow v_now_size v_now_stations v_sightings_size r_now_rows r_sightings_rows)) (va_runS (As := [.int x1, .int x3]) (rest := []) ⟨hx, hb, hml, hown, hts⟩ (m_X5_holds l dC dI k H.size  x1 x3 e4) (va_cwS 2 hts gX5_which_X5_holds rfl rfl rfl (by decide +kernel) ⟨Nat.le_of_ble_eq_true rfl, Nat.le_of_ble_eq_true rfl⟩) (g_preS hG hP hD hS hA [] rfl (by decide)) rfl rfl hl.1 rfl (lv_room (Nat.le_of_ble_eq_true rfl)) dX5_which_26 ⟨Nat.le_of_ble_eq_true rfl, Nat.le_of_ble_eq_true rfl⟩) hP hD hS hA [] [0, 1, 2, 3, 4] [0, 1, 2, 3, 4] rfl rfl (by decide) (by decide) rfl (by decide) (fun H locs hP hD hS => ?_)
        refine lv_if_eq (tgt := 59) hx hb dX5_which_29 (by decide) (fun c5 => ?_) (fun c5 => ?_)
        · replace hm := ifp c5 hm
          exact J_59 _ _ _ _ _ _ (lv_sub hl [0, 1, 2, 3] rfl) hP hD hS hm
        · replace hm := ifn c5 hm
          refine lv_aload_n hx hb dX5_which_32 rfl (lv_at hl 0 rfl) ?_
          refine va_get (D := (dC, dI)) (ci := 5) (v := .ref n_sightings) (C := RX5) (T := TX5) (N := 9) hx hb hts hinX5 hown hG.1 hP 0 rfl rfl 4 (by decide) k2 (fun _ h9 => h9) rfl dX5_which_33 ?_
          refine lv_aload_n hx hb dX5_which_36 rfl (lv_at hl 0 rfl) ?_
          refine va_get (D := (dC, dI)) (ci := 5) (v := .ref n_now) (C := RX5) (T := TX5) (N := 9) hx hb hts hinX5 hown hG.1 hP 0 rfl rfl 1 (by decide) k0 (fun _ h9 => h9) rfl dX5_which_37 ?_
          refine lv_iload_n hx hb dX5_which_40 rfl (lv_at hl 1 rfl) ?_
          refine lv_iconst (v := (1 : Int32)) hx hb dX5_which_41 (by decide) ?_
          refine lv_iload_n hx hb dX5_which_42 rfl (lv_at hl 3 rfl) ?_
          refine g_ishl hx hb dX5_which_43 ?_
          refine lv_iconst (v := (-1 : Int32)) hx hb dX5_which_44 (by decide) ?_
          refine lv_ixor hx hb dX5_which_45 ?_
          refine lv_iand hx hb dX5_which_46 ?_
          obtain ⟨r6, e7, hm⟩ := bnd1_some hm
          refine g_calli (w2 := (wd_a64664 k n_t n_text n_now n_past n_slots n_sightings n_survey n_trial n_now_rows n_sightings_rows v_filledSlots v_seedNow v_now_size v_now_stations v_sightings_size r_now_rows r_sightings_rows)) (va_runV (As := [.ref n_now, .int (x1 &&& ((shlI (1 : Int32) x3) ^^^ (-1 : Int32)))]) (rest := []) ⟨hx, hb, hml, hown, hts⟩ (m_X2_fit l dC dI k F H.size n_sightings n_now n_sightings_rows n_now_rows v_sightings_size v_now_size v_now_stations r_sightings_rows r_now_rows (x1 &&& ((shlI (1 : Int32) x3) ^^^ (-1 : Int32))) e7) (cwV 2 hts gX5_which_X2_fit rfl rfl rfl (by decide +kernel) ⟨Nat.le_of_ble_eq_true rfl, Nat.le_of_ble_eq_true rfl⟩) (g_preV hG hP hD hS hA [3, 4, 1, 2] rfl (by decide) (ci := 2) (q0 := 3) rfl rfl) rfl rfl hl.1 rfl (lv_room (Nat.le_of_ble_eq_true rfl)) dX5_which_47 ⟨Nat.le_of_ble_eq_true rfl, Nat.le_of_ble_eq_true rfl⟩) hP hD hS hA [3, 4, 1, 2] [0] [0, 3, 4, 1, 2] rfl rfl (by decide) (by decide) rfl (by decide) (fun H locs hP hD hS => ?_)
          refine lv_if_eq (tgt := 59) hx hb dX5_which_50 (by decide) (fun c8 => ?_) (fun c8 => ?_)
          · replace hm := ifp c8 hm
            exact J_59 _ _ _ _ _ _ (lv_sub hl [0, 1, 2, 3] rfl) hP hD hS hm
          · replace hm := ifn c8 hm
            refine lv_iload_n hx hb dX5_which_53 rfl (lv_at hl 2 rfl) ?_
            refine lv_iconst (v := (1 : Int32)) hx hb dX5_which_54 (by decide) ?_
            refine lv_iload_n hx hb dX5_which_55 rfl (lv_at hl 3 rfl) ?_
            refine g_ishl hx hb dX5_which_56 ?_
            refine lv_ior hx hb dX5_which_57 ?_
            refine lv_topi (fun t9 et9 => ?_)
            replace hm := (nmd_eq et9).trans hm
            refine lv_istore_n (lv' := [(2, .int t9), (0, .ref n_t), (1, .int x1), (3, .int x3)]) hx hb dX5_which_58 rfl hl (by decide) rfl (fun ls hl => ?_)
            exact J_59 _ _ _ _ _ _ (lv_sub hl [1, 2, 0, 3] rfl) hP hD hS hm
  unfold f_X5_which at hm
  refine lv_aload_n hx hb dX5_which_0 rfl (lv_at hl 0 rfl) ?_
  refine va_get (D := (dC, dI)) (ci := 5) (v := .ref n_now) (C := RX5) (T := TX5) (N := 9) hx hb hts hinX5 hown hG.1 hP 0 rfl rfl 1 (by decide) k0 (fun _ h9 => h9) rfl dX5_which_1 ?_
  refine lv_iconst (v := (1 : Int32)) hx hb dX5_which_4 (by decide) ?_
  obtain ⟨r10, e11, hm⟩ := bnd1_some hm
  refine g_calli (w2 := (wd_a64664 k n_t n_text n_now n_past n_slots n_sightings n_survey n_trial n_now_rows n_sightings_rows v_filledSlots v_seedNow v_now_size v_now_stations v_sightings_size r_now_rows r_sightings_rows)) (va_runV (As := [.int (1 : Int32)]) (rest := []) ⟨hx, hb, hml, hown, hts⟩ (m_X0_open l dC dI k F H.size n_now n_now_rows v_now_size v_now_stations r_now_rows (1 : Int32) e11) (cwV 1 hts gX5_which_X0_open rfl rfl rfl (by decide +kernel) ⟨Nat.le_of_ble_eq_true rfl, Nat.le_of_ble_eq_true rfl⟩) (g_preV hG hP hD hS hA [1, 2] rfl (by decide) (ci := 0) (q0 := 1) rfl rfl) rfl rfl hl.1 rfl (lv_room (Nat.le_of_ble_eq_true rfl)) dX5_which_5 ⟨Nat.le_of_ble_eq_true rfl, Nat.le_of_ble_eq_true rfl⟩) hP hD hS hA [1, 2] [0, 3, 4] [0, 3, 4, 1, 2] rfl rfl (by decide) (by decide) rfl (by decide) (fun H locs hP hD hS => ?_)
  refine lv_istore_n (lv' := [(1, .int r10), (0, .ref n_t)]) hx hb dX5_which_8 rfl hl (by decide) rfl (fun ls hl => ?_)
  refine lv_iconst (v := (0 : Int32)) hx hb dX5_which_9 (by decide) ?_
  refine lv_istore_n (lv' := [(2, .int (0 : Int32)), (1, .int r10), (0, .ref n_t)]) hx hb dX5_which_10 rfl hl (by decide) rfl (fun ls hl => ?_)
  refine lv_iconst (v := (0 : Int32)) hx hb dX5_which_11 (by decide) ?_
  refine lv_istore_n (lv' := [(3, .int (0 : Int32)), (2, .int (0 : Int32)), (1, .int r10), (0, .ref n_t)]) hx hb dX5_which_12 rfl hl (by decide) rfl (fun ls hl => ?_)
  exact L_13 F _ _ _ _ _ _ (lv_sub hl [3, 2, 1, 0] rfl) hP hD hS hm
set_option maxRecDepth 100000 in
theorem m_X5_which (l : Launch) (dC : Nat → ClassId) (dI : Nat → Nat → Nat) (k : Nat → ClassId) (F : Nat) (sz : Nat) (n_t n_text n_now n_past n_slots n_sightings n_survey n_trial n_now_rows n_sightings_rows : Nat) (v_filledSlots : Int32) (v_seedNow : Int64) (v_now_size : Int32) (v_now_stations : Int32) (v_sightings_size : Int32) (r_now_rows : Nat → Int32) (r_sightings_rows : Nat → Int32) {o_r : Int32} (hm : f_X5_which F v_now_size v_now_stations r_now_rows v_sightings_size r_sightings_rows = some o_r) : Met l yX5_which wsX5_which rm_X5_which (gPre dC dI k [.ref n_t] sz (wd_a64664 k n_t n_text n_now n_past n_slots n_sightings n_survey n_trial n_now_rows n_sightings_rows v_filledSlots v_seedNow v_now_size v_now_stations v_sightings_size r_now_rows r_sightings_rows)) (gQI dC dI (va_A (wd_a64664 k n_t n_text n_now n_past n_slots n_sightings n_survey n_trial n_now_rows n_sightings_rows v_filledSlots v_seedNow v_now_size v_now_stations v_sightings_size r_now_rows r_sightings_rows) sz) o_r (wd_a64664 k n_t n_text n_now n_past n_slots n_sightings n_survey n_trial n_now_rows n_sightings_rows v_filledSlots v_seedNow v_now_size v_now_stations v_sightings_size r_now_rows r_sightings_rows)) 0 0 (va_A (wd_a64664 k n_t n_text n_now n_past n_slots n_sightings n_survey n_trial n_now_rows n_sightings_rows v_filledSlots v_seedNow v_now_size v_now_stations v_sightings_size r_now_rows r_sightings_rows) sz) := by
  refine g_entry (cc := cX5_which) (maxL := 4) (ret := (some .int)) (lv := [(0, .ref n_t)]) (by decide +kernel) rfl (Nat.le_of_ble_eq_true rfl) rfl (fun p e s m below meth c ls hx hb hr hml hts hown hlk hnm hsz hG hA hP hD hS hl => ?_)
  exact k_X5_which hx hb hml hts hown hG hA F n_t n_text n_now n_past n_slots n_sightings n_survey n_trial n_now_rows n_sightings_rows v_filledSlots v_seedNow v_now_size v_now_stations v_sightings_size r_now_rows r_sightings_rows o_r (fun pc H locs ls v hd ho hP hD hS => by cases ho; exact g_ireti hx hb hr hlk hP hD hS hd) s.heap [] ls hl hP hD hS hm
end
section
set_option maxHeartbeats 4000000 in
set_option maxRecDepth 100000 in
theorem k_X5_gain {p : Program} {l : Launch} {e : Env} {s : State} {m : MethodId} {args : Array Value} {below : List Frame} {meth : Method} {c : Code} {A : Nat → Prop} {Q : State → Prop} {dC : Nat → ClassId} {dI : Nat → Nat → Nat} {k : Nat → ClassId} (hx : p.tables.exec = Jvm.exec) (hb : c.code = cX5_gain) (hml : c.maxLocals = 5) (hts : ∀ w ∈ wsX5_gain, w.before args s = true) (hown : s.vm.findClass RX5 = some m.cls) (hG : gK dC dI k A s) (hA : ∀ q : Nat, s.heap.size ≤ q → A q) (F : Nat) (n_t n_text n_now n_past n_slots n_sightings n_survey n_trial n_now_rows : Nat) (v_filledSlots : Int32) (v_seedNow : Int64) (v_now_size : Int32) (v_now_stations : Int32) (r_now_rows : Nat → Int32) (x1 : Int32) (x2 : Int32) (o_r : Int32) (RET : ∀ (pc : Nat) (H : Heap) (locs : List Loc) (ls : Array Slot) (v : Int32), decode cX5_gain pc = .ok (.ireturn, 1) → some v = some o_r → va_P (dC, dI) vwCl (wd_4273f5 k n_t n_text n_now n_past n_slots n_sightings n_survey n_trial n_now_rows v_filledSlots v_seedNow v_now_size v_now_stations r_now_rows) H → va_D A (wd_4273f5 k n_t n_text n_now n_past n_slots n_sightings n_survey n_trial n_now_rows v_filledSlots v_seedNow v_now_size v_now_stations r_now_rows) → va_S A s.heap H locs → W p l e rm_X5_gain s m args below meth c H locs 0 0 Q (F0 m pc ls [.int v])) (H : Heap) (locs : List Loc) (ls : Array Slot) (hl : lv_has ls 5 [(0, .ref n_t), (1, .int x1), (2, .int x2)]) (hP : va_P (dC, dI) vwCl (wd_4273f5 k n_t n_text n_now n_past n_slots n_sightings n_survey n_trial n_now_rows v_filledSlots v_seedNow v_now_size v_now_stations r_now_rows) H) (hD : va_D A (wd_4273f5 k n_t n_text n_now n_past n_slots n_sightings n_survey n_trial n_now_rows v_filledSlots v_seedNow v_now_size v_now_stations r_now_rows)) (hS : va_S A s.heap H locs) (hm : f_X5_gain F x1 x2 r_now_rows = some o_r) : W p l e rm_X5_gain s m args below meth c H locs 0 0 Q (F0 m 0 ls []) := by
  have hinX5 : ∀ w ∈ u_ws RX5 TX5 9, w ∈ wsX5_gain := by decide +kernel
  have k0 := hts (.fieldLink RX5 19 "CaveLegs" "now" "LCaveLegs$Legs;") (by decide +kernel)
  unfold f_X5_gain at hm
  refine lv_aload_n hx hb dX5_gain_0 rfl (lv_at hl 0 rfl) ?_
  refine va_get (D := (dC, dI)) (ci := 5) (v := .ref n_now) (C := RX5) (T := TX5) (N := 9) hx hb hts hinX5 hown hG.1 hP 0 rfl rfl 1 (by decide) k0 (fun _ h9 => h9) rfl dX5_gain_1 ?_
  refine lv_iload_n hx hb dX5_gain_4 rfl (lv_at hl 1 rfl) ?_
  refine lv_iconst (v := (1 : Int32)) hx hb dX5_gain_5 (by decide) ?_
  obtain ⟨r1, e2, hm⟩ := bnd1_some hm
  refine g_calli (w2 := (wd_4273f5 k n_t n_text n_now n_past n_slots n_sightings n_survey n_trial n_now_rows v_filledSlots v_seedNow v_now_size v_now_stations r_now_rows)) (va_runV (As := [.int x1, .int (1 : Int32)]) (rest := []) ⟨hx, hb, hml, hown, hts⟩ (m_X0_spread l dC dI k F H.size n_now n_now_rows v_now_size v_now_stations r_now_rows x1 (1 : Int32) e2) (cwV 2 hts gX5_gain_X0_spread rfl rfl rfl (by decide +kernel) ⟨Nat.le_of_ble_eq_true rfl, Nat.le_of_ble_eq_true rfl⟩) (g_preV hG hP hD hS hA [1, 2] rfl (by decide) (ci := 0) (q0 := 1) rfl rfl) rfl rfl hl.1 rfl (lv_room (Nat.le_of_ble_eq_true rfl)) dX5_gain_6 ⟨Nat.le_of_ble_eq_true rfl, Nat.le_of_ble_eq_true rfl⟩) hP hD hS hA [1, 2] [0] [0, 1, 2] rfl rfl (by decide) (by decide) rfl (by decide) (fun H locs hP hD hS => ?_)
  refine lv_istore_n (lv' := [(3, .int r1), (0, .ref n_t), (1, .int x1), (2, .int x2)]) hx hb dX5_gain_9 rfl hl (by decide) rfl (fun ls hl => ?_)
  refine lv_aload_n hx hb dX5_gain_10 rfl (lv_at hl 1 rfl) ?_
  refine va_get (D := (dC, dI)) (ci := 5) (v := .ref n_now) (C := RX5) (T := TX5) (N := 9) hx hb hts hinX5 hown hG.1 hP 0 rfl rfl 1 (by decide) k0 (fun _ h9 => h9) rfl dX5_gain_11 ?_
  refine lv_iload_n hx hb dX5_gain_14 rfl (lv_at hl 2 rfl) ?_
  refine lv_iconst (v := (1 : Int32)) hx hb dX5_gain_15 (by decide) ?_
  refine lv_iload_n hx hb dX5_gain_16 rfl (lv_at hl 3 rfl) ?_
  refine g_ishl hx hb dX5_gain_17 ?_
  refine lv_ior hx hb dX5_gain_18 ?_
  refine lv_iconst (v := (1 : Int32)) hx hb dX5_gain_19 (by decide) ?_
  obtain ⟨r3, e4, hm⟩ := bnd1_some hm
  refine g_calli (w2 := (wd_4273f5 k n_t n_text n_now n_past n_slots n_sightings n_survey n_trial n_now_rows v_filledSlots v_seedNow v_now_size v_now_stations r_now_rows)) (va_runV (As := [.int (x1 ||| (shlI (1 : Int32) x2)), .int (1 : Int32)]) (rest := []) ⟨hx, hb, hml, hown, hts⟩ (m_X0_spread l dC dI k F H.size n_now n_now_rows v_now_size v_now_stations r_now_rows (x1 ||| (shlI (1 : Int32) x2)) (1 : Int32) e4) (cwV 2 hts gX5_gain_X0_spread rfl rfl rfl (by decide +kernel) ⟨Nat.le_of_ble_eq_true rfl, Nat.le_of_ble_eq_true rfl⟩) (g_preV hG hP hD hS hA [1, 2] rfl (by decide) (ci := 0) (q0 := 1) rfl rfl) rfl rfl hl.1 rfl (lv_room (Nat.le_of_ble_eq_true rfl)) dX5_gain_20 ⟨Nat.le_of_ble_eq_true rfl, Nat.le_of_ble_eq_true rfl⟩) hP hD hS hA [1, 2] [0] [0, 1, 2] rfl rfl (by decide) (by decide) rfl (by decide) (fun H locs hP hD hS => ?_)
  refine lv_istore (lv' := [(4, .int r3), (3, .int r1), (0, .ref n_t), (1, .int x1), (2, .int x2)]) hx hb dX5_gain_23 hl (by decide) rfl (fun ls hl => ?_)
  refine lv_iload hx hb dX5_gain_25 (lv_at hl 0 rfl) ?_
  obtain ⟨r5, e6, hm⟩ := bnd1_some hm
  refine g_calli (w2 := (wd_4273f5 k n_t n_text n_now n_past n_slots n_sightings n_survey n_trial n_now_rows v_filledSlots v_seedNow v_now_size v_now_stations r_now_rows)) (va_runS (As := [.int r3]) (rest := []) ⟨hx, hb, hml, hown, hts⟩ (m_J6_bitCount_0f7a4 l dC dI k H.size  r3 e6) (va_cwS 1 hts gX5_gain_J6_bitCount_0f7a4 rfl rfl rfl (by decide +kernel) ⟨Nat.le_of_ble_eq_true rfl, Nat.le_of_ble_eq_true rfl⟩) (g_preS hG hP hD hS hA [] rfl (by decide)) rfl rfl hl.1 rfl (lv_room (Nat.le_of_ble_eq_true rfl)) dX5_gain_27 ⟨Nat.le_of_ble_eq_true rfl, Nat.le_of_ble_eq_true rfl⟩) hP hD hS hA [] [0, 1, 2] [0, 1, 2] rfl rfl (by decide) (by decide) rfl (by decide) (fun H locs hP hD hS => ?_)
  refine lv_iload_n hx hb dX5_gain_30 rfl (lv_at hl 1 rfl) ?_
  obtain ⟨r7, e8, hm⟩ := bnd1_some hm
  refine g_calli (w2 := (wd_4273f5 k n_t n_text n_now n_past n_slots n_sightings n_survey n_trial n_now_rows v_filledSlots v_seedNow v_now_size v_now_stations r_now_rows)) (va_runS (As := [.int r1]) (rest := [.int r5]) ⟨hx, hb, hml, hown, hts⟩ (m_J6_bitCount_0f7a4 l dC dI k H.size  r1 e8) (va_cwS 1 hts gX5_gain_J6_bitCount_0f7a4 rfl rfl rfl (by decide +kernel) ⟨Nat.le_of_ble_eq_true rfl, Nat.le_of_ble_eq_true rfl⟩) (g_preS hG hP hD hS hA [] rfl (by decide)) rfl rfl hl.1 rfl (lv_room (Nat.le_of_ble_eq_true rfl)) dX5_gain_31 ⟨Nat.le_of_ble_eq_true rfl, Nat.le_of_ble_eq_true rfl⟩) hP hD hS hA [] [0, 1, 2] [0, 1, 2] rfl rfl (by decide) (by decide) rfl (by decide) (fun H locs hP hD hS => ?_)
  refine lv_isub hx hb dX5_gain_34 ?_
  exact RET _ _ _ _ _ dX5_gain_35 hm hP hD hS
set_option maxRecDepth 100000 in
theorem m_X5_gain (l : Launch) (dC : Nat → ClassId) (dI : Nat → Nat → Nat) (k : Nat → ClassId) (F : Nat) (sz : Nat) (n_t n_text n_now n_past n_slots n_sightings n_survey n_trial n_now_rows : Nat) (v_filledSlots : Int32) (v_seedNow : Int64) (v_now_size : Int32) (v_now_stations : Int32) (r_now_rows : Nat → Int32) (x1 : Int32) (x2 : Int32) {o_r : Int32} (hm : f_X5_gain F x1 x2 r_now_rows = some o_r) : Met l yX5_gain wsX5_gain rm_X5_gain (gPre dC dI k [.ref n_t, .int x1, .int x2] sz (wd_4273f5 k n_t n_text n_now n_past n_slots n_sightings n_survey n_trial n_now_rows v_filledSlots v_seedNow v_now_size v_now_stations r_now_rows)) (gQI dC dI (va_A (wd_4273f5 k n_t n_text n_now n_past n_slots n_sightings n_survey n_trial n_now_rows v_filledSlots v_seedNow v_now_size v_now_stations r_now_rows) sz) o_r (wd_4273f5 k n_t n_text n_now n_past n_slots n_sightings n_survey n_trial n_now_rows v_filledSlots v_seedNow v_now_size v_now_stations r_now_rows)) 0 0 (va_A (wd_4273f5 k n_t n_text n_now n_past n_slots n_sightings n_survey n_trial n_now_rows v_filledSlots v_seedNow v_now_size v_now_stations r_now_rows) sz) := by
  refine g_entry (cc := cX5_gain) (maxL := 5) (ret := (some .int)) (lv := [(0, .ref n_t), (1, .int x1), (2, .int x2)]) (by decide +kernel) rfl (Nat.le_of_ble_eq_true rfl) rfl (fun p e s m below meth c ls hx hb hr hml hts hown hlk hnm hsz hG hA hP hD hS hl => ?_)
  exact k_X5_gain hx hb hml hts hown hG hA F n_t n_text n_now n_past n_slots n_sightings n_survey n_trial n_now_rows v_filledSlots v_seedNow v_now_size v_now_stations r_now_rows x1 x2 o_r (fun pc H locs ls v hd ho hP hD hS => by cases ho; exact g_ireti hx hb hr hlk hP hD hS hd) s.heap [] ls hl hP hD hS hm
end
section
set_option maxHeartbeats 4000000 in
set_option maxRecDepth 100000 in
theorem k_X5_factorial {p : Program} {l : Launch} {e : Env} {s : State} {m : MethodId} {args : Array Value} {below : List Frame} {meth : Method} {c : Code} {A : Nat → Prop} {Q : State → Prop} {dC : Nat → ClassId} {dI : Nat → Nat → Nat} {k : Nat → ClassId} (hx : p.tables.exec = Jvm.exec) (hb : c.code = cX5_factorial) (hml : c.maxLocals = 3) (hts : ∀ w ∈ wsX5_factorial, w.before args s = true) (hown : s.vm.findClass RX5 = some m.cls) (hG : gK dC dI k A s) (hA : ∀ q : Nat, s.heap.size ≤ q → A q) (F : Nat)  (x0 : Int32) (o_r : Int32) (RET : ∀ (pc : Nat) (H : Heap) (locs : List Loc) (ls : Array Slot) (v : Int32), decode cX5_factorial pc = .ok (.ireturn, 1) → some v = some o_r → va_P (dC, dI) vwCl [] H → va_D A [] → va_S A s.heap H locs → W p l e rm_X5_factorial s m args below meth c H locs 0 0 Q (F0 m pc ls [.int v])) (H : Heap) (locs : List Loc) (ls : Array Slot) (hl : lv_has ls 3 [(0, .int x0)]) (hP : va_P (dC, dI) vwCl [] H) (hD : va_D A []) (hS : va_S A s.heap H locs) (hm : f_X5_factorial F x0 = some o_r) : W p l e rm_X5_factorial s m args below meth c H locs 0 0 Q (F0 m 0 ls []) := by
  have L_4 : ∀ (n4 : Nat) (x0 : Int32) (x1 : Int32) (x2 : Int32) (H : Heap) (locs : List Loc) (ls : Array Slot), lv_has ls 3 [(0, .int x0), (1, .int x1), (2, .int x2)] → va_P (dC, dI) vwCl [] H → va_D A [] → va_S A s.heap H locs → f_X5_factorial_L4 F n4 x0 x1 x2 = some o_r → W p l e rm_X5_factorial s m args below meth c H locs 0 0 Q (F0 m 4 ls []) := by
    intro n4
    induction n4 with
    | zero =>
      intro x0 x1 x2 H locs ls hl hP hD hS hm
      exact non_some hm
    | succ n4 ih4 =>
      intro x0 x1 x2 H locs ls hl hP hD hS hm
      replace hm : f_X5_factorial_B4 F (f_X5_factorial_L4 F n4) x0 x1 x2 = some o_r := hm
      unfold f_X5_factorial_B4 at hm
      refine lv_iload_n hx hb dX5_factorial_4 rfl (lv_at hl 2 rfl) ?_
      refine lv_iload_n hx hb dX5_factorial_5 rfl (lv_at hl 0 rfl) ?_
      refine lv_icmp_ge (tgt := 21) hx hb dX5_factorial_6 (by decide) (fun c1 => ?_) (fun c1 => ?_)
      · replace hm := ifp c1 hm
        refine lv_iload_n hx hb dX5_factorial_21 rfl (lv_at hl 1 rfl) ?_
        exact RET _ _ _ _ _ dX5_factorial_22 hm hP hD hS
      · replace hm := ifn c1 hm
        refine lv_iload_n hx hb dX5_factorial_9 rfl (lv_at hl 1 rfl) ?_
        refine lv_iload_n hx hb dX5_factorial_10 rfl (lv_at hl 2 rfl) ?_
        refine lv_iconst (v := (1 : Int32)) hx hb dX5_factorial_11 (by decide) ?_
        refine lv_iadd hx hb dX5_factorial_12 ?_
        refine lv_imul hx hb dX5_factorial_13 ?_
        refine lv_topi (fun t2 et2 => ?_)
        replace hm := (nmd_eq et2).trans hm
        refine lv_istore_n (lv' := [(1, .int t2), (0, .int x0), (2, .int x2)]) hx hb dX5_factorial_14 rfl hl (by decide) rfl (fun ls hl => ?_)
        obtain ⟨t3, et3⟩ : ∃ y : Int32, y = x2 + (1 : Int32) := ⟨_, rfl⟩
        replace hm := (nmd_eq et3).trans hm
        refine lv_iinc (v := t3) (lv' := [(2, .int t3), (1, .int t2), (0, .int x0)]) hx hb dX5_factorial_15 hl (k := 2) rfl (by rw [et3]; rfl) (by decide) rfl (fun ls hl => ?_)
        refine lv_goto (tgt := 4) hx hb dX5_factorial_18 (by decide) ?_
        exact ih4 _ _ _ _ _ _ (lv_sub hl [2, 1, 0] rfl) hP hD hS hm
  unfold f_X5_factorial at hm
  refine lv_iconst (v := (1 : Int32)) hx hb dX5_factorial_0 (by decide) ?_
  refine lv_istore_n (lv' := [(1, .int (1 : Int32)), (0, .int x0)]) hx hb dX5_factorial_1 rfl hl (by decide) rfl (fun ls hl => ?_)
  refine lv_iconst (v := (1 : Int32)) hx hb dX5_factorial_2 (by decide) ?_
  refine lv_istore_n (lv' := [(2, .int (1 : Int32)), (1, .int (1 : Int32)), (0, .int x0)]) hx hb dX5_factorial_3 rfl hl (by decide) rfl (fun ls hl => ?_)
  exact L_4 F _ _ _ _ _ _ (lv_sub hl [2, 1, 0] rfl) hP hD hS hm
set_option maxRecDepth 100000 in
theorem m_X5_factorial (l : Launch) (dC : Nat → ClassId) (dI : Nat → Nat → Nat) (k : Nat → ClassId) (F : Nat) (sz : Nat)  (x0 : Int32) {o_r : Int32} (hm : f_X5_factorial F x0 = some o_r) : Met l yX5_factorial wsX5_factorial rm_X5_factorial (gPre dC dI k [.int x0] sz []) (gQI dC dI (va_A [] sz) o_r []) 0 0 (va_A [] sz) := by
  refine g_entry (cc := cX5_factorial) (maxL := 3) (ret := (some .int)) (lv := [(0, .int x0)]) (by decide +kernel) rfl (Nat.le_of_ble_eq_true rfl) rfl (fun p e s m below meth c ls hx hb hr hml hts hown hlk hnm hsz hG hA hP hD hS hl => ?_)
  exact k_X5_factorial hx hb hml hts hown hG hA F x0 o_r (fun pc H locs ls v hd ho hP hD hS => by cases ho; exact g_ireti hx hb hr hlk hP hD hS hd) s.heap [] ls hl hP hD hS hm
end
section
set_option maxHeartbeats 4000000 in
set_option maxRecDepth 100000 in
theorem k_X5_share {p : Program} {l : Launch} {e : Env} {s : State} {m : MethodId} {args : Array Value} {below : List Frame} {meth : Method} {c : Code} {A : Nat → Prop} {Q : State → Prop} {dC : Nat → ClassId} {dI : Nat → Nat → Nat} {k : Nat → ClassId} (hx : p.tables.exec = Jvm.exec) (hb : c.code = cX5_share) (hml : c.maxLocals = 8) (hts : ∀ w ∈ wsX5_share, w.before args s = true) (hown : s.vm.findClass RX5 = some m.cls) (hG : gK dC dI k A s) (hA : ∀ q : Nat, s.heap.size ≤ q → A q) (F : Nat) (n_t n_text n_now n_past n_slots n_sightings n_survey n_trial n_now_rows : Nat) (v_filledSlots : Int32) (v_seedNow : Int64) (v_now_size : Int32) (v_now_stations : Int32) (r_now_rows : Nat → Int32) (x1 : Int32) (x2 : Int32) (o_r : Int32) (RET : ∀ (pc : Nat) (H : Heap) (locs : List Loc) (ls : Array Slot) (v : Int32), decode cX5_share pc = .ok (.ireturn, 1) → some v = some o_r → va_P (dC, dI) vwCl (wd_4273f5 k n_t n_text n_now n_past n_slots n_sightings n_survey n_trial n_now_rows v_filledSlots v_seedNow v_now_size v_now_stations r_now_rows) H → va_D A (wd_4273f5 k n_t n_text n_now n_past n_slots n_sightings n_survey n_trial n_now_rows v_filledSlots v_seedNow v_now_size v_now_stations r_now_rows) → va_S A s.heap H locs → W p l e rm_X5_share s m args below meth c H locs 0 0 Q (F0 m pc ls [.int v])) (H : Heap) (locs : List Loc) (ls : Array Slot) (hl : lv_has ls 8 [(0, .ref n_t), (1, .int x1), (2, .int x2)]) (hP : va_P (dC, dI) vwCl (wd_4273f5 k n_t n_text n_now n_past n_slots n_sightings n_survey n_trial n_now_rows v_filledSlots v_seedNow v_now_size v_now_stations r_now_rows) H) (hD : va_D A (wd_4273f5 k n_t n_text n_now n_past n_slots n_sightings n_survey n_trial n_now_rows v_filledSlots v_seedNow v_now_size v_now_stations r_now_rows)) (hS : va_S A s.heap H locs) (hm : f_X5_share F x1 x2 v_now_size r_now_rows = some o_r) : W p l e rm_X5_share s m args below meth c H locs 0 0 Q (F0 m 0 ls []) := by
  have hinX5 : ∀ w ∈ u_ws RX5 TX5 9, w ∈ wsX5_share := by decide +kernel
  have k0 := hts (.fieldLink RX5 19 "CaveLegs" "now" "LCaveLegs$Legs;") (by decide +kernel)
  have L_56 : ∀ (n56 : Nat) (x1 : Int32) (x2 : Int32) (x3 : Int32) (x4 : Int32) (x5 : Int32) (x6 : Int32) (H : Heap) (locs : List Loc) (ls : Array Slot), lv_has ls 8 [(0, .ref n_t), (1, .int x1), (2, .int x2), (3, .int x3), (4, .int x4), (5, .int x5), (6, .int x6)] → va_P (dC, dI) vwCl (wd_4273f5 k n_t n_text n_now n_past n_slots n_sightings n_survey n_trial n_now_rows v_filledSlots v_seedNow v_now_size v_now_stations r_now_rows) H → va_D A (wd_4273f5 k n_t n_text n_now n_past n_slots n_sightings n_survey n_trial n_now_rows v_filledSlots v_seedNow v_now_size v_now_stations r_now_rows) → va_S A s.heap H locs → f_X5_share_L56 F v_now_size r_now_rows n56 x1 x2 x3 x4 x5 x6 = some o_r → W p l e rm_X5_share s m args below meth c H locs 0 0 Q (F0 m 56 ls []) := by
    intro n56
    induction n56 with
    | zero =>
      intro x1 x2 x3 x4 x5 x6 H locs ls hl hP hD hS hm
      exact non_some hm
    | succ n56 ih56 =>
      have J_107 : ∀ (x1 : Int32) (x2 : Int32) (x3 : Int32) (x4 : Int32) (x5 : Int32) (x6 : Int32) (H : Heap) (locs : List Loc) (ls : Array Slot), lv_has ls 8 [(0, .ref n_t), (1, .int x1), (2, .int x2), (3, .int x3), (4, .int x4), (5, .int x5), (6, .int x6)] → va_P (dC, dI) vwCl (wd_4273f5 k n_t n_text n_now n_past n_slots n_sightings n_survey n_trial n_now_rows v_filledSlots v_seedNow v_now_size v_now_stations r_now_rows) H → va_D A (wd_4273f5 k n_t n_text n_now n_past n_slots n_sightings n_survey n_trial n_now_rows v_filledSlots v_seedNow v_now_size v_now_stations r_now_rows) → va_S A s.heap H locs → f_X5_share_J107 F v_now_size r_now_rows (f_X5_share_L56 F v_now_size r_now_rows n56) x1 x2 x3 x4 x5 x6 = some o_r → W p l e rm_X5_share s m args below meth c H locs 0 0 Q (F0 m 107 ls []) := by
        intro x1 x2 x3 x4 x5 x6 H locs ls hl hP hD hS hm
        unfold f_X5_share_J107 at hm
        obtain ⟨t1, et1⟩ : ∃ y : Int32, y = x6 + (1 : Int32) := ⟨_, rfl⟩
        replace hm := (nmd_eq et1).trans hm
        refine lv_iinc (v := t1) (lv' := [(6, .int t1), (0, .ref n_t), (1, .int x1), (2, .int x2), (3, .int x3), (4, .int x4), (5, .int x5)]) hx hb dX5_share_107 hl (k := 6) rfl (by rw [et1]; rfl) (by decide) rfl (fun ls hl => ?_)
        refine lv_goto (tgt := 56) hx hb dX5_share_110 (by decide) ?_
        exact ih56 _ _ _ _ _ _ _ _ _ (lv_sub hl [1, 2, 3, 4, 5, 6, 0] rfl) hP hD hS hm
      intro x1 x2 x3 x4 x5 x6 H locs ls hl hP hD hS hm
      replace hm : f_X5_share_B56 F v_now_size r_now_rows (f_X5_share_L56 F v_now_size r_now_rows n56) x1 x2 x3 x4 x5 x6 = some o_r := hm
      unfold f_X5_share_B56 at hm
      refine lv_iload hx hb dX5_share_56 (lv_at hl 6 rfl) ?_
      refine lv_sipush (v := (256 : Int32)) hx hb dX5_share_58 (by decide) ?_
      refine lv_icmp_ge (tgt := 113) hx hb dX5_share_61 (by decide) (fun c2 => ?_) (fun c2 => ?_)
      · replace hm := ifp c2 hm
        refine lv_iload hx hb dX5_share_113 (lv_at hl 5 rfl) ?_
        refine g_i2l hx hb dX5_share_115 ?_
        refine lv_iload hx hb dX5_share_116 (lv_at hl 4 rfl) ?_
        refine lv_iconst (v := (1 : Int32)) hx hb dX5_share_118 (by decide) ?_
        refine lv_iadd hx hb dX5_share_119 ?_
        obtain ⟨r3, e4, hm⟩ := bnd1_some hm
        refine g_calli (w2 := (wd_4273f5 k n_t n_text n_now n_past n_slots n_sightings n_survey n_trial n_now_rows v_filledSlots v_seedNow v_now_size v_now_stations r_now_rows)) (va_runS (As := [.int (x4 + (1 : Int32))]) (rest := [.long (Int32.toInt64 x5)]) ⟨hx, hb, hml, hown, hts⟩ (m_X5_factorial l dC dI k F H.size  (x4 + (1 : Int32)) e4) (va_cwS 1 hts gX5_share_X5_factorial rfl rfl rfl (by decide +kernel) ⟨Nat.le_of_ble_eq_true rfl, Nat.le_of_ble_eq_true rfl⟩) (g_preS hG hP hD hS hA [] rfl (by decide)) rfl rfl hl.1 rfl (lv_room (Nat.le_of_ble_eq_true rfl)) dX5_share_120 ⟨Nat.le_of_ble_eq_true rfl, Nat.le_of_ble_eq_true rfl⟩) hP hD hS hA [] [0, 1, 2] [0, 1, 2] rfl rfl (by decide) (by decide) rfl (by decide) (fun H locs hP hD hS => ?_)
        refine g_i2l hx hb dX5_share_123 ?_
        refine lv_iload_n hx hb dX5_share_124 rfl (lv_at hl 2 rfl) ?_
        obtain ⟨r5, e6, hm⟩ := bnd1_some hm
        refine g_calll (w2 := (wd_4273f5 k n_t n_text n_now n_past n_slots n_sightings n_survey n_trial n_now_rows v_filledSlots v_seedNow v_now_size v_now_stations r_now_rows)) (va_runS (As := [.long (Int32.toInt64 x5), .long (Int32.toInt64 r3), .int x2]) (rest := []) ⟨hx, hb, hml, hown, hts⟩ (m_X5_lowest l dC dI k F H.size  (Int32.toInt64 x5) (Int32.toInt64 r3) x2 e6) (va_cwS 3 hts gX5_share_X5_lowest rfl rfl rfl (by decide +kernel) ⟨Nat.le_of_ble_eq_true rfl, Nat.le_of_ble_eq_true rfl⟩) (g_preS hG hP hD hS hA [] rfl (by decide)) rfl rfl hl.1 rfl (lv_room (Nat.le_of_ble_eq_true rfl)) dX5_share_125 ⟨Nat.le_of_ble_eq_true rfl, Nat.le_of_ble_eq_true rfl⟩) hP hD hS hA [] [0, 1, 2] [0, 1, 2] rfl rfl (by decide) (by decide) rfl (by decide) (fun H locs hP hD hS => ?_)
        refine g_l2i hx hb dX5_share_128 ?_
        exact RET _ _ _ _ _ dX5_share_129 hm hP hD hS
      · replace hm := ifn c2 hm
        refine lv_iload hx hb dX5_share_64 (lv_at hl 6 rfl) ?_
        refine lv_iload_n hx hb dX5_share_66 rfl (lv_at hl 3 rfl) ?_
        refine lv_iconst (v := (-1 : Int32)) hx hb dX5_share_67 (by decide) ?_
        refine lv_ixor hx hb dX5_share_68 ?_
        refine lv_iand hx hb dX5_share_69 ?_
        refine lv_if_ne (tgt := 107) hx hb dX5_share_70 (by decide) (fun c7 => ?_) (fun c7 => ?_)
        · replace hm := ifn c7 hm
          exact J_107 _ _ _ _ _ _ _ _ _ (lv_sub hl [0, 1, 2, 3, 4, 5, 6] rfl) hP hD hS hm
        · replace hm := ifp c7 hm
          refine lv_iload hx hb dX5_share_73 (lv_at hl 6 rfl) ?_
          obtain ⟨r8, e9, hm⟩ := bnd1_some hm
          refine g_calli (w2 := (wd_4273f5 k n_t n_text n_now n_past n_slots n_sightings n_survey n_trial n_now_rows v_filledSlots v_seedNow v_now_size v_now_stations r_now_rows)) (va_runS (As := [.int x6]) (rest := []) ⟨hx, hb, hml, hown, hts⟩ (m_J6_bitCount_0f7a4 l dC dI k H.size  x6 e9) (va_cwS 1 hts gX5_share_J6_bitCount_0f7a4 rfl rfl rfl (by decide +kernel) ⟨Nat.le_of_ble_eq_true rfl, Nat.le_of_ble_eq_true rfl⟩) (g_preS hG hP hD hS hA [] rfl (by decide)) rfl rfl hl.1 rfl (lv_room (Nat.le_of_ble_eq_true rfl)) dX5_share_75 ⟨Nat.le_of_ble_eq_true rfl, Nat.le_of_ble_eq_true rfl⟩) hP hD hS hA [] [0, 1, 2] [0, 1, 2] rfl rfl (by decide) (by decide) rfl (by decide) (fun H locs hP hD hS => ?_)
          refine lv_istore (lv' := [(7, .int r8), (0, .ref n_t), (1, .int x1), (2, .int x2), (3, .int x3), (4, .int x4), (5, .int x5), (6, .int x6)]) hx hb dX5_share_78 hl (by decide) rfl (fun ls hl => ?_)
          refine lv_iload hx hb dX5_share_80 (lv_at hl 6 rfl) ?_
          refine lv_aload_n hx hb dX5_share_82 rfl (lv_at hl 1 rfl) ?_
          refine lv_iload hx hb dX5_share_83 (lv_at hl 7 rfl) ?_
          refine lv_iload_n hx hb dX5_share_85 rfl (lv_at hl 2 rfl) ?_
          obtain ⟨r10, e11, hm⟩ := bnd1_some hm
          refine g_calli (w2 := (wd_4273f5 k n_t n_text n_now n_past n_slots n_sightings n_survey n_trial n_now_rows v_filledSlots v_seedNow v_now_size v_now_stations r_now_rows)) (va_runV (As := [.int x6, .int x1]) (rest := [.int x5]) ⟨hx, hb, hml, hown, hts⟩ (m_X5_gain l dC dI k F H.size n_t n_text n_now n_past n_slots n_sightings n_survey n_trial n_now_rows v_filledSlots v_seedNow v_now_size v_now_stations r_now_rows x6 x1 e11) (cwV 2 hts gX5_share_X5_gain rfl rfl rfl (by decide +kernel) ⟨Nat.le_of_ble_eq_true rfl, Nat.le_of_ble_eq_true rfl⟩) (g_preV hG hP hD hS hA [0, 1, 2] rfl (by decide) (ci := 5) (q0 := 0) rfl rfl) rfl rfl hl.1 rfl (lv_room (Nat.le_of_ble_eq_true rfl)) dX5_share_86 ⟨Nat.le_of_ble_eq_true rfl, Nat.le_of_ble_eq_true rfl⟩) hP hD hS hA [0, 1, 2] [] [0, 1, 2] rfl rfl (by decide) (by decide) rfl (by decide) (fun H locs hP hD hS => ?_)
          refine lv_iload hx hb dX5_share_89 (lv_at hl 0 rfl) ?_
          obtain ⟨r12, e13, hm⟩ := bnd1_some hm
          refine g_calli (w2 := (wd_4273f5 k n_t n_text n_now n_past n_slots n_sightings n_survey n_trial n_now_rows v_filledSlots v_seedNow v_now_size v_now_stations r_now_rows)) (va_runS (As := [.int r8]) (rest := [.int r10, .int x5]) ⟨hx, hb, hml, hown, hts⟩ (m_X5_factorial l dC dI k F H.size  r8 e13) (va_cwS 1 hts gX5_share_X5_factorial rfl rfl rfl (by decide +kernel) ⟨Nat.le_of_ble_eq_true rfl, Nat.le_of_ble_eq_true rfl⟩) (g_preS hG hP hD hS hA [] rfl (by decide)) rfl rfl hl.1 rfl (lv_room (Nat.le_of_ble_eq_true rfl)) dX5_share_91 ⟨Nat.le_of_ble_eq_true rfl, Nat.le_of_ble_eq_true rfl⟩) hP hD hS hA [] [0, 1, 2] [0, 1, 2] rfl rfl (by decide) (by decide) rfl (by decide) (fun H locs hP hD hS => ?_)
          refine lv_imul hx hb dX5_share_94 ?_
          refine lv_iload hx hb dX5_share_95 (lv_at hl 5 rfl) ?_
          refine lv_iload hx hb dX5_share_97 (lv_at hl 0 rfl) ?_
          refine lv_isub hx hb dX5_share_99 ?_
          obtain ⟨r14, e15, hm⟩ := bnd1_some hm
          refine g_calli (w2 := (wd_4273f5 k n_t n_text n_now n_past n_slots n_sightings n_survey n_trial n_now_rows v_filledSlots v_seedNow v_now_size v_now_stations r_now_rows)) (va_runS (As := [.int (x4 - r8)]) (rest := [.int (r10 * r12), .int x5]) ⟨hx, hb, hml, hown, hts⟩ (m_X5_factorial l dC dI k F H.size  (x4 - r8) e15) (va_cwS 1 hts gX5_share_X5_factorial rfl rfl rfl (by decide +kernel) ⟨Nat.le_of_ble_eq_true rfl, Nat.le_of_ble_eq_true rfl⟩) (g_preS hG hP hD hS hA [] rfl (by decide)) rfl rfl hl.1 rfl (lv_room (Nat.le_of_ble_eq_true rfl)) dX5_share_100 ⟨Nat.le_of_ble_eq_true rfl, Nat.le_of_ble_eq_true rfl⟩) hP hD hS hA [] [0, 1, 2] [0, 1, 2] rfl rfl (by decide) (by decide) rfl (by decide) (fun H locs hP hD hS => ?_)
          refine lv_imul hx hb dX5_share_103 ?_
          refine lv_iadd hx hb dX5_share_104 ?_
          refine lv_topi (fun t16 et16 => ?_)
          replace hm := (nmd_eq et16).trans hm
          refine lv_istore (lv' := [(5, .int t16), (7, .int r8), (0, .ref n_t), (1, .int x1), (2, .int x2), (3, .int x3), (4, .int x4), (6, .int x6)]) hx hb dX5_share_105 hl (by decide) rfl (fun ls hl => ?_)
          exact J_107 _ _ _ _ _ _ _ _ _ (lv_sub hl [2, 3, 4, 5, 6, 0, 7] rfl) hP hD hS hm
  unfold f_X5_share at hm
  refine lv_aload_n hx hb dX5_share_0 rfl (lv_at hl 0 rfl) ?_
  refine va_get (D := (dC, dI)) (ci := 5) (v := .ref n_now) (C := RX5) (T := TX5) (N := 9) hx hb hts hinX5 hown hG.1 hP 0 rfl rfl 1 (by decide) k0 (fun _ h9 => h9) rfl dX5_share_1 ?_
  refine lv_iload_n hx hb dX5_share_4 rfl (lv_at hl 1 rfl) ?_
  obtain ⟨r17, e18, hm⟩ := bnd1_some hm
  refine g_calli (w2 := (wd_4273f5 k n_t n_text n_now n_past n_slots n_sightings n_survey n_trial n_now_rows v_filledSlots v_seedNow v_now_size v_now_stations r_now_rows)) (va_runV (As := [.int x1]) (rest := []) ⟨hx, hb, hml, hown, hts⟩ (m_X0_has l dC dI k H.size n_now n_now_rows v_now_size v_now_stations x1 e18) (cwV 1 hts gX5_share_X0_has rfl rfl rfl (by decide +kernel) ⟨Nat.le_of_ble_eq_true rfl, Nat.le_of_ble_eq_true rfl⟩) (g_preV hG hP hD hS hA [1] rfl (by decide) (ci := 0) (q0 := 1) rfl rfl) rfl rfl hl.1 rfl (lv_room (Nat.le_of_ble_eq_true rfl)) dX5_share_5 ⟨Nat.le_of_ble_eq_true rfl, Nat.le_of_ble_eq_true rfl⟩) hP hD hS hA [1] [0, 2] [0, 2, 1] rfl rfl (by decide) (by decide) rfl (by decide) (fun H locs hP hD hS => ?_)
  refine lv_if_ne (tgt := 13) hx hb dX5_share_8 (by decide) (fun c19 => ?_) (fun c19 => ?_)
  · replace hm := ifn c19 hm
    refine lv_aload_n hx hb dX5_share_13 rfl (lv_at hl 0 rfl) ?_
    refine va_get (D := (dC, dI)) (ci := 5) (v := .ref n_now) (C := RX5) (T := TX5) (N := 9) hx hb hts hinX5 hown hG.1 hP 0 rfl rfl 1 (by decide) k0 (fun _ h9 => h9) rfl dX5_share_14 ?_
    refine lv_iload_n hx hb dX5_share_17 rfl (lv_at hl 1 rfl) ?_
    refine lv_bipush (v := (6 : Int32)) hx hb dX5_share_18 (by decide) ?_
    obtain ⟨r20, e21, hm⟩ := bnd1_some hm
    refine g_calli (w2 := (wd_4273f5 k n_t n_text n_now n_past n_slots n_sightings n_survey n_trial n_now_rows v_filledSlots v_seedNow v_now_size v_now_stations r_now_rows)) (va_runV (As := [.int x1, .int (6 : Int32)]) (rest := []) ⟨hx, hb, hml, hown, hts⟩ (m_X0_get l dC dI k H.size n_now n_now_rows v_now_size v_now_stations r_now_rows x1 (6 : Int32) e21) (cwV 2 hts gX5_share_X0_get rfl rfl rfl (by decide +kernel) ⟨Nat.le_of_ble_eq_true rfl, Nat.le_of_ble_eq_true rfl⟩) (g_preV hG hP hD hS hA [1, 2] rfl (by decide) (ci := 0) (q0 := 1) rfl rfl) rfl rfl hl.1 rfl (lv_room (Nat.le_of_ble_eq_true rfl)) dX5_share_20 ⟨Nat.le_of_ble_eq_true rfl, Nat.le_of_ble_eq_true rfl⟩) hP hD hS hA [1, 2] [0] [0, 1, 2] rfl rfl (by decide) (by decide) rfl (by decide) (fun H locs hP hD hS => ?_)
    refine lv_if_eq (tgt := 29) hx hb dX5_share_23 (by decide) (fun c22 => ?_) (fun c22 => ?_)
    · replace hm := ifp c22 hm
      refine lv_aload_n hx hb dX5_share_29 rfl (lv_at hl 0 rfl) ?_
      refine va_get (D := (dC, dI)) (ci := 5) (v := .ref n_now) (C := RX5) (T := TX5) (N := 9) hx hb hts hinX5 hown hG.1 hP 0 rfl rfl 1 (by decide) k0 (fun _ h9 => h9) rfl dX5_share_30 ?_
      refine lv_iconst (v := (1 : Int32)) hx hb dX5_share_33 (by decide) ?_
      obtain ⟨r23, e24, hm⟩ := bnd1_some hm
      refine g_calli (w2 := (wd_4273f5 k n_t n_text n_now n_past n_slots n_sightings n_survey n_trial n_now_rows v_filledSlots v_seedNow v_now_size v_now_stations r_now_rows)) (va_runV (As := [.int (1 : Int32)]) (rest := []) ⟨hx, hb, hml, hown, hts⟩ (m_X0_open l dC dI k F H.size n_now n_now_rows v_now_size v_now_stations r_now_rows (1 : Int32) e24) (cwV 1 hts gX5_share_X0_open rfl rfl rfl (by decide +kernel) ⟨Nat.le_of_ble_eq_true rfl, Nat.le_of_ble_eq_true rfl⟩) (g_preV hG hP hD hS hA [1, 2] rfl (by decide) (ci := 0) (q0 := 1) rfl rfl) rfl rfl hl.1 rfl (lv_room (Nat.le_of_ble_eq_true rfl)) dX5_share_34 ⟨Nat.le_of_ble_eq_true rfl, Nat.le_of_ble_eq_true rfl⟩) hP hD hS hA [1, 2] [0] [0, 1, 2] rfl rfl (by decide) (by decide) rfl (by decide) (fun H locs hP hD hS => ?_)
      refine lv_iconst (v := (1 : Int32)) hx hb dX5_share_37 (by decide) ?_
      refine lv_iload_n hx hb dX5_share_38 rfl (lv_at hl 1 rfl) ?_
      refine g_ishl hx hb dX5_share_39 ?_
      refine lv_iconst (v := (-1 : Int32)) hx hb dX5_share_40 (by decide) ?_
      refine lv_ixor hx hb dX5_share_41 ?_
      refine lv_iand hx hb dX5_share_42 ?_
      refine lv_topi (fun t25 et25 => ?_)
      replace hm := (nmd_eq et25).trans hm
      refine lv_istore_n (lv' := [(3, .int t25), (0, .ref n_t), (1, .int x1), (2, .int x2)]) hx hb dX5_share_43 rfl hl (by decide) rfl (fun ls hl => ?_)
      refine lv_iload_n hx hb dX5_share_44 rfl (lv_at hl 0 rfl) ?_
      obtain ⟨r26, e27, hm⟩ := bnd1_some hm
      refine g_calli (w2 := (wd_4273f5 k n_t n_text n_now n_past n_slots n_sightings n_survey n_trial n_now_rows v_filledSlots v_seedNow v_now_size v_now_stations r_now_rows)) (va_runS (As := [.int t25]) (rest := []) ⟨hx, hb, hml, hown, hts⟩ (m_J6_bitCount_0f7a4 l dC dI k H.size  t25 e27) (va_cwS 1 hts gX5_share_J6_bitCount_0f7a4 rfl rfl rfl (by decide +kernel) ⟨Nat.le_of_ble_eq_true rfl, Nat.le_of_ble_eq_true rfl⟩) (g_preS hG hP hD hS hA [] rfl (by decide)) rfl rfl hl.1 rfl (lv_room (Nat.le_of_ble_eq_true rfl)) dX5_share_45 ⟨Nat.le_of_ble_eq_true rfl, Nat.le_of_ble_eq_true rfl⟩) hP hD hS hA [] [0, 1, 2] [0, 1, 2] rfl rfl (by decide) (by decide) rfl (by decide) (fun H locs hP hD hS => ?_)
      refine lv_istore (lv' := [(4, .int r26), (3, .int t25), (0, .ref n_t), (1, .int x1), (2, .int x2)]) hx hb dX5_share_48 hl (by decide) rfl (fun ls hl => ?_)
      refine lv_iconst (v := (0 : Int32)) hx hb dX5_share_50 (by decide) ?_
      refine lv_istore (lv' := [(5, .int (0 : Int32)), (4, .int r26), (3, .int t25), (0, .ref n_t), (1, .int x1), (2, .int x2)]) hx hb dX5_share_51 hl (by decide) rfl (fun ls hl => ?_)
      refine lv_iconst (v := (0 : Int32)) hx hb dX5_share_53 (by decide) ?_
      refine lv_istore (lv' := [(6, .int (0 : Int32)), (5, .int (0 : Int32)), (4, .int r26), (3, .int t25), (0, .ref n_t), (1, .int x1), (2, .int x2)]) hx hb dX5_share_54 hl (by decide) rfl (fun ls hl => ?_)
      exact L_56 F _ _ _ _ _ _ _ _ _ (lv_sub hl [4, 5, 6, 3, 2, 1, 0] rfl) hP hD hS hm
    · replace hm := ifn c22 hm
      refine lv_bipush (v := (-3 : Int32)) hx hb dX5_share_26 (by decide) ?_
      exact RET _ _ _ _ _ dX5_share_28 hm hP hD hS
  · replace hm := ifp c19 hm
    refine lv_iconst (v := (-1 : Int32)) hx hb dX5_share_11 (by decide) ?_
    exact RET _ _ _ _ _ dX5_share_12 hm hP hD hS
set_option maxRecDepth 100000 in
theorem m_X5_share (l : Launch) (dC : Nat → ClassId) (dI : Nat → Nat → Nat) (k : Nat → ClassId) (F : Nat) (sz : Nat) (n_t n_text n_now n_past n_slots n_sightings n_survey n_trial n_now_rows : Nat) (v_filledSlots : Int32) (v_seedNow : Int64) (v_now_size : Int32) (v_now_stations : Int32) (r_now_rows : Nat → Int32) (x1 : Int32) (x2 : Int32) {o_r : Int32} (hm : f_X5_share F x1 x2 v_now_size r_now_rows = some o_r) : Met l yX5_share wsX5_share rm_X5_share (gPre dC dI k [.ref n_t, .int x1, .int x2] sz (wd_4273f5 k n_t n_text n_now n_past n_slots n_sightings n_survey n_trial n_now_rows v_filledSlots v_seedNow v_now_size v_now_stations r_now_rows)) (gQI dC dI (va_A (wd_4273f5 k n_t n_text n_now n_past n_slots n_sightings n_survey n_trial n_now_rows v_filledSlots v_seedNow v_now_size v_now_stations r_now_rows) sz) o_r (wd_4273f5 k n_t n_text n_now n_past n_slots n_sightings n_survey n_trial n_now_rows v_filledSlots v_seedNow v_now_size v_now_stations r_now_rows)) 0 0 (va_A (wd_4273f5 k n_t n_text n_now n_past n_slots n_sightings n_survey n_trial n_now_rows v_filledSlots v_seedNow v_now_size v_now_stations r_now_rows) sz) := by
  refine g_entry (cc := cX5_share) (maxL := 8) (ret := (some .int)) (lv := [(0, .ref n_t), (1, .int x1), (2, .int x2)]) (by decide +kernel) rfl (Nat.le_of_ble_eq_true rfl) rfl (fun p e s m below meth c ls hx hb hr hml hts hown hlk hnm hsz hG hA hP hD hS hl => ?_)
  exact k_X5_share hx hb hml hts hown hG hA F n_t n_text n_now n_past n_slots n_sightings n_survey n_trial n_now_rows v_filledSlots v_seedNow v_now_size v_now_stations r_now_rows x1 x2 o_r (fun pc H locs ls v hd ho hP hD hS => by cases ho; exact g_ireti hx hb hr hlk hP hD hS hd) s.heap [] ls hl hP hD hS hm
end
section
set_option maxHeartbeats 4000000 in
set_option maxRecDepth 100000 in
theorem k_X5_power {p : Program} {l : Launch} {e : Env} {s : State} {m : MethodId} {args : Array Value} {below : List Frame} {meth : Method} {c : Code} {A : Nat → Prop} {Q : State → Prop} {dC : Nat → ClassId} {dI : Nat → Nat → Nat} {k : Nat → ClassId} (hx : p.tables.exec = Jvm.exec) (hb : c.code = cX5_power) (hml : c.maxLocals = 4) (hts : ∀ w ∈ wsX5_power, w.before args s = true) (hown : s.vm.findClass RX5 = some m.cls) (hG : gK dC dI k A s) (hA : ∀ q : Nat, s.heap.size ≤ q → A q) (F : Nat)  (x0 : Int32) (x1 : Int32) (o_r : Int32) (RET : ∀ (pc : Nat) (H : Heap) (locs : List Loc) (ls : Array Slot) (v : Int32), decode cX5_power pc = .ok (.ireturn, 1) → some v = some o_r → va_P (dC, dI) vwCl [] H → va_D A [] → va_S A s.heap H locs → W p l e rm_X5_power s m args below meth c H locs 0 0 Q (F0 m pc ls [.int v])) (H : Heap) (locs : List Loc) (ls : Array Slot) (hl : lv_has ls 4 [(0, .int x0), (1, .int x1)]) (hP : va_P (dC, dI) vwCl [] H) (hD : va_D A []) (hS : va_S A s.heap H locs) (hm : f_X5_power F x0 x1 = some o_r) : W p l e rm_X5_power s m args below meth c H locs 0 0 Q (F0 m 0 ls []) := by
  have L_4 : ∀ (n4 : Nat) (x0 : Int32) (x1 : Int32) (x2 : Int32) (x3 : Int32) (H : Heap) (locs : List Loc) (ls : Array Slot), lv_has ls 4 [(0, .int x0), (1, .int x1), (2, .int x2), (3, .int x3)] → va_P (dC, dI) vwCl [] H → va_D A [] → va_S A s.heap H locs → f_X5_power_L4 F n4 x0 x1 x2 x3 = some o_r → W p l e rm_X5_power s m args below meth c H locs 0 0 Q (F0 m 4 ls []) := by
    intro n4
    induction n4 with
    | zero =>
      intro x0 x1 x2 x3 H locs ls hl hP hD hS hm
      exact non_some hm
    | succ n4 ih4 =>
      intro x0 x1 x2 x3 H locs ls hl hP hD hS hm
      replace hm : f_X5_power_B4 F (f_X5_power_L4 F n4) x0 x1 x2 x3 = some o_r := hm
      unfold f_X5_power_B4 at hm
      refine lv_iload_n hx hb dX5_power_4 rfl (lv_at hl 3 rfl) ?_
      refine lv_iload_n hx hb dX5_power_5 rfl (lv_at hl 1 rfl) ?_
      refine lv_icmp_ge (tgt := 19) hx hb dX5_power_6 (by decide) (fun c1 => ?_) (fun c1 => ?_)
      · replace hm := ifp c1 hm
        refine lv_iload_n hx hb dX5_power_19 rfl (lv_at hl 2 rfl) ?_
        exact RET _ _ _ _ _ dX5_power_20 hm hP hD hS
      · replace hm := ifn c1 hm
        refine lv_iload_n hx hb dX5_power_9 rfl (lv_at hl 2 rfl) ?_
        refine lv_iload_n hx hb dX5_power_10 rfl (lv_at hl 0 rfl) ?_
        refine lv_imul hx hb dX5_power_11 ?_
        refine lv_topi (fun t2 et2 => ?_)
        replace hm := (nmd_eq et2).trans hm
        refine lv_istore_n (lv' := [(2, .int t2), (0, .int x0), (1, .int x1), (3, .int x3)]) hx hb dX5_power_12 rfl hl (by decide) rfl (fun ls hl => ?_)
        obtain ⟨t3, et3⟩ : ∃ y : Int32, y = x3 + (1 : Int32) := ⟨_, rfl⟩
        replace hm := (nmd_eq et3).trans hm
        refine lv_iinc (v := t3) (lv' := [(3, .int t3), (2, .int t2), (0, .int x0), (1, .int x1)]) hx hb dX5_power_13 hl (k := 3) rfl (by rw [et3]; rfl) (by decide) rfl (fun ls hl => ?_)
        refine lv_goto (tgt := 4) hx hb dX5_power_16 (by decide) ?_
        exact ih4 _ _ _ _ _ _ _ (lv_sub hl [2, 3, 1, 0] rfl) hP hD hS hm
  unfold f_X5_power at hm
  refine lv_iconst (v := (1 : Int32)) hx hb dX5_power_0 (by decide) ?_
  refine lv_istore_n (lv' := [(2, .int (1 : Int32)), (0, .int x0), (1, .int x1)]) hx hb dX5_power_1 rfl hl (by decide) rfl (fun ls hl => ?_)
  refine lv_iconst (v := (0 : Int32)) hx hb dX5_power_2 (by decide) ?_
  refine lv_istore_n (lv' := [(3, .int (0 : Int32)), (2, .int (1 : Int32)), (0, .int x0), (1, .int x1)]) hx hb dX5_power_3 rfl hl (by decide) rfl (fun ls hl => ?_)
  exact L_4 F _ _ _ _ _ _ _ (lv_sub hl [2, 3, 1, 0] rfl) hP hD hS hm
set_option maxRecDepth 100000 in
theorem m_X5_power (l : Launch) (dC : Nat → ClassId) (dI : Nat → Nat → Nat) (k : Nat → ClassId) (F : Nat) (sz : Nat)  (x0 : Int32) (x1 : Int32) {o_r : Int32} (hm : f_X5_power F x0 x1 = some o_r) : Met l yX5_power wsX5_power rm_X5_power (gPre dC dI k [.int x0, .int x1] sz []) (gQI dC dI (va_A [] sz) o_r []) 0 0 (va_A [] sz) := by
  refine g_entry (cc := cX5_power) (maxL := 4) (ret := (some .int)) (lv := [(0, .int x0), (1, .int x1)]) (by decide +kernel) rfl (Nat.le_of_ble_eq_true rfl) rfl (fun p e s m below meth c ls hx hb hr hml hts hown hlk hnm hsz hG hA hP hD hS hl => ?_)
  exact k_X5_power hx hb hml hts hown hG hA F x0 x1 o_r (fun pc H locs ls v hd ho hP hD hS => by cases ho; exact g_ireti hx hb hr hlk hP hD hS hd) s.heap [] ls hl hP hD hS hm
end
section
set_option maxHeartbeats 4000000 in
set_option maxRecDepth 100000 in
theorem k_X5_falls {p : Program} {l : Launch} {e : Env} {s : State} {m : MethodId} {args : Array Value} {below : List Frame} {meth : Method} {c : Code} {A : Nat → Prop} {Q : State → Prop} {dC : Nat → ClassId} {dI : Nat → Nat → Nat} {k : Nat → ClassId} (hx : p.tables.exec = Jvm.exec) (hb : c.code = cX5_falls) (hml : c.maxLocals = 10) (hts : ∀ w ∈ wsX5_falls, w.before args s = true) (hown : s.vm.findClass RX5 = some m.cls) (hG : gK dC dI k A s) (hA : ∀ q : Nat, s.heap.size ≤ q → A q) (F : Nat) (n_t n_text n_now n_past n_slots n_sightings n_survey n_trial n_now_rows : Nat) (v_filledSlots : Int32) (v_seedNow : Int64) (v_now_size : Int32) (v_now_stations : Int32) (r_now_rows : Nat → Int32) (x1 : Int32) (x2 : Int32) (x3 : Int32) (x4 : Int32) (o_r : Int32) (RET : ∀ (pc : Nat) (H : Heap) (locs : List Loc) (ls : Array Slot) (v : Int32), decode cX5_falls pc = .ok (.ireturn, 1) → some v = some o_r → va_P (dC, dI) vwCl (wd_4273f5 k n_t n_text n_now n_past n_slots n_sightings n_survey n_trial n_now_rows v_filledSlots v_seedNow v_now_size v_now_stations r_now_rows) H → va_D A (wd_4273f5 k n_t n_text n_now n_past n_slots n_sightings n_survey n_trial n_now_rows v_filledSlots v_seedNow v_now_size v_now_stations r_now_rows) → va_S A s.heap H locs → W p l e rm_X5_falls s m args below meth c H locs 0 0 Q (F0 m pc ls [.int v])) (H : Heap) (locs : List Loc) (ls : Array Slot) (hl : lv_has ls 10 [(0, .ref n_t), (1, .int x1), (2, .int x2), (3, .int x3), (4, .int x4)]) (hP : va_P (dC, dI) vwCl (wd_4273f5 k n_t n_text n_now n_past n_slots n_sightings n_survey n_trial n_now_rows v_filledSlots v_seedNow v_now_size v_now_stations r_now_rows) H) (hD : va_D A (wd_4273f5 k n_t n_text n_now n_past n_slots n_sightings n_survey n_trial n_now_rows v_filledSlots v_seedNow v_now_size v_now_stations r_now_rows)) (hS : va_S A s.heap H locs) (hm : f_X5_falls F x1 x2 x3 x4 v_now_size v_now_stations r_now_rows = some o_r) : W p l e rm_X5_falls s m args below meth c H locs 0 0 Q (F0 m 0 ls []) := by
  have hinX5 : ∀ w ∈ u_ws RX5 TX5 9, w ∈ wsX5_falls := by decide +kernel
  have k0 := hts (.fieldLink RX5 19 "CaveLegs" "now" "LCaveLegs$Legs;") (by decide +kernel)
  have L_56 : ∀ (n56 : Nat) (x1 : Int32) (x3 : Int32) (x4 : Int32) (x5 : Int32) (x6 : Int32) (x7 : Int32) (x8 : Int32) (H : Heap) (locs : List Loc) (ls : Array Slot), lv_has ls 10 [(0, .ref n_t), (1, .int x1), (3, .int x3), (4, .int x4), (5, .int x5), (6, .int x6), (7, .int x7), (8, .int x8)] → va_P (dC, dI) vwCl (wd_4273f5 k n_t n_text n_now n_past n_slots n_sightings n_survey n_trial n_now_rows v_filledSlots v_seedNow v_now_size v_now_stations r_now_rows) H → va_D A (wd_4273f5 k n_t n_text n_now n_past n_slots n_sightings n_survey n_trial n_now_rows v_filledSlots v_seedNow v_now_size v_now_stations r_now_rows) → va_S A s.heap H locs → f_X5_falls_L56 F v_now_size v_now_stations r_now_rows n56 x1 x3 x4 x5 x6 x7 x8 = some o_r → W p l e rm_X5_falls s m args below meth c H locs 0 0 Q (F0 m 56 ls []) := by
    intro n56
    induction n56 with
    | zero =>
      intro x1 x3 x4 x5 x6 x7 x8 H locs ls hl hP hD hS hm
      exact non_some hm
    | succ n56 ih56 =>
      have J_122 : ∀ (x1 : Int32) (x3 : Int32) (x4 : Int32) (x5 : Int32) (x6 : Int32) (x7 : Int32) (x8 : Int32) (H : Heap) (locs : List Loc) (ls : Array Slot), lv_has ls 10 [(0, .ref n_t), (1, .int x1), (3, .int x3), (4, .int x4), (5, .int x5), (6, .int x6), (7, .int x7), (8, .int x8)] → va_P (dC, dI) vwCl (wd_4273f5 k n_t n_text n_now n_past n_slots n_sightings n_survey n_trial n_now_rows v_filledSlots v_seedNow v_now_size v_now_stations r_now_rows) H → va_D A (wd_4273f5 k n_t n_text n_now n_past n_slots n_sightings n_survey n_trial n_now_rows v_filledSlots v_seedNow v_now_size v_now_stations r_now_rows) → va_S A s.heap H locs → f_X5_falls_J122 F v_now_size v_now_stations r_now_rows (f_X5_falls_L56 F v_now_size v_now_stations r_now_rows n56) x1 x3 x4 x5 x6 x7 x8 = some o_r → W p l e rm_X5_falls s m args below meth c H locs 0 0 Q (F0 m 122 ls []) := by
        intro x1 x3 x4 x5 x6 x7 x8 H locs ls hl hP hD hS hm
        unfold f_X5_falls_J122 at hm
        obtain ⟨t1, et1⟩ : ∃ y : Int32, y = x8 + (1 : Int32) := ⟨_, rfl⟩
        replace hm := (nmd_eq et1).trans hm
        refine lv_iinc (v := t1) (lv' := [(8, .int t1), (0, .ref n_t), (1, .int x1), (3, .int x3), (4, .int x4), (5, .int x5), (6, .int x6), (7, .int x7)]) hx hb dX5_falls_122 hl (k := 7) rfl (by rw [et1]; rfl) (by decide) rfl (fun ls hl => ?_)
        refine lv_goto (tgt := 56) hx hb dX5_falls_125 (by decide) ?_
        exact ih56 _ _ _ _ _ _ _ _ _ _ (lv_sub hl [1, 2, 3, 4, 5, 6, 7, 0] rfl) hP hD hS hm
      intro x1 x3 x4 x5 x6 x7 x8 H locs ls hl hP hD hS hm
      replace hm : f_X5_falls_B56 F v_now_size v_now_stations r_now_rows (f_X5_falls_L56 F v_now_size v_now_stations r_now_rows n56) x1 x3 x4 x5 x6 x7 x8 = some o_r := hm
      unfold f_X5_falls_B56 at hm
      refine lv_iload hx hb dX5_falls_56 (lv_at hl 7 rfl) ?_
      refine lv_sipush (v := (256 : Int32)) hx hb dX5_falls_58 (by decide) ?_
      refine lv_icmp_ge (tgt := 128) hx hb dX5_falls_61 (by decide) (fun c2 => ?_) (fun c2 => ?_)
      · replace hm := ifp c2 hm
        refine lv_iload hx hb dX5_falls_128 (lv_at hl 6 rfl) ?_
        refine g_i2l hx hb dX5_falls_130 ?_
        refine lv_bipush (v := (10 : Int32)) hx hb dX5_falls_131 (by decide) ?_
        refine lv_iload hx hb dX5_falls_133 (lv_at hl 5 rfl) ?_
        obtain ⟨r3, e4, hm⟩ := bnd1_some hm
        refine g_calli (w2 := (wd_4273f5 k n_t n_text n_now n_past n_slots n_sightings n_survey n_trial n_now_rows v_filledSlots v_seedNow v_now_size v_now_stations r_now_rows)) (va_runS (As := [.int (10 : Int32), .int x6]) (rest := [.long (Int32.toInt64 x7)]) ⟨hx, hb, hml, hown, hts⟩ (m_X5_power l dC dI k F H.size  (10 : Int32) x6 e4) (va_cwS 2 hts gX5_falls_X5_power rfl rfl rfl (by decide +kernel) ⟨Nat.le_of_ble_eq_true rfl, Nat.le_of_ble_eq_true rfl⟩) (g_preS hG hP hD hS hA [] rfl (by decide)) rfl rfl hl.1 rfl (lv_room (Nat.le_of_ble_eq_true rfl)) dX5_falls_135 ⟨Nat.le_of_ble_eq_true rfl, Nat.le_of_ble_eq_true rfl⟩) hP hD hS hA [] [0, 1, 2] [0, 1, 2] rfl rfl (by decide) (by decide) rfl (by decide) (fun H locs hP hD hS => ?_)
        refine g_i2l hx hb dX5_falls_138 ?_
        refine lv_iload hx hb dX5_falls_139 (lv_at hl 3 rfl) ?_
        obtain ⟨r5, e6, hm⟩ := bnd1_some hm
        refine g_calll (w2 := (wd_4273f5 k n_t n_text n_now n_past n_slots n_sightings n_survey n_trial n_now_rows v_filledSlots v_seedNow v_now_size v_now_stations r_now_rows)) (va_runS (As := [.long (Int32.toInt64 x7), .long (Int32.toInt64 r3), .int x4]) (rest := []) ⟨hx, hb, hml, hown, hts⟩ (m_X5_lowest l dC dI k F H.size  (Int32.toInt64 x7) (Int32.toInt64 r3) x4 e6) (va_cwS 3 hts gX5_falls_X5_lowest rfl rfl rfl (by decide +kernel) ⟨Nat.le_of_ble_eq_true rfl, Nat.le_of_ble_eq_true rfl⟩) (g_preS hG hP hD hS hA [] rfl (by decide)) rfl rfl hl.1 rfl (lv_room (Nat.le_of_ble_eq_true rfl)) dX5_falls_141 ⟨Nat.le_of_ble_eq_true rfl, Nat.le_of_ble_eq_true rfl⟩) hP hD hS hA [] [0, 1, 2] [0, 1, 2] rfl rfl (by decide) (by decide) rfl (by decide) (fun H locs hP hD hS => ?_)
        refine g_l2i hx hb dX5_falls_144 ?_
        exact RET _ _ _ _ _ dX5_falls_145 hm hP hD hS
      · replace hm := ifn c2 hm
        refine lv_iload hx hb dX5_falls_64 (lv_at hl 7 rfl) ?_
        refine lv_iload hx hb dX5_falls_66 (lv_at hl 4 rfl) ?_
        refine lv_iconst (v := (-1 : Int32)) hx hb dX5_falls_68 (by decide) ?_
        refine lv_ixor hx hb dX5_falls_69 ?_
        refine lv_iand hx hb dX5_falls_70 ?_
        refine lv_if_ne (tgt := 122) hx hb dX5_falls_71 (by decide) (fun c7 => ?_) (fun c7 => ?_)
        · replace hm := ifn c7 hm
          exact J_122 _ _ _ _ _ _ _ _ _ _ (lv_sub hl [0, 1, 2, 3, 4, 5, 6, 7] rfl) hP hD hS hm
        · replace hm := ifp c7 hm
          refine lv_aload_n hx hb dX5_falls_74 rfl (lv_at hl 0 rfl) ?_
          refine va_get (D := (dC, dI)) (ci := 5) (v := .ref n_now) (C := RX5) (T := TX5) (N := 9) hx hb hts hinX5 hown hG.1 hP 0 rfl rfl 1 (by decide) k0 (fun _ h9 => h9) rfl dX5_falls_75 ?_
          refine lv_iload hx hb dX5_falls_78 (lv_at hl 7 rfl) ?_
          refine lv_iconst (v := (1 : Int32)) hx hb dX5_falls_80 (by decide) ?_
          obtain ⟨r8, e9, hm⟩ := bnd1_some hm
          refine g_calli (w2 := (wd_4273f5 k n_t n_text n_now n_past n_slots n_sightings n_survey n_trial n_now_rows v_filledSlots v_seedNow v_now_size v_now_stations r_now_rows)) (va_runV (As := [.int x8, .int (1 : Int32)]) (rest := []) ⟨hx, hb, hml, hown, hts⟩ (m_X0_spread l dC dI k F H.size n_now n_now_rows v_now_size v_now_stations r_now_rows x8 (1 : Int32) e9) (cwV 2 hts gX5_falls_X0_spread rfl rfl rfl (by decide +kernel) ⟨Nat.le_of_ble_eq_true rfl, Nat.le_of_ble_eq_true rfl⟩) (g_preV hG hP hD hS hA [1, 2] rfl (by decide) (ci := 0) (q0 := 1) rfl rfl) rfl rfl hl.1 rfl (lv_room (Nat.le_of_ble_eq_true rfl)) dX5_falls_81 ⟨Nat.le_of_ble_eq_true rfl, Nat.le_of_ble_eq_true rfl⟩) hP hD hS hA [1, 2] [0] [0, 1, 2] rfl rfl (by decide) (by decide) rfl (by decide) (fun H locs hP hD hS => ?_)
          refine lv_iload_n hx hb dX5_falls_84 rfl (lv_at hl 1 rfl) ?_
          obtain ⟨r10, e11, hm⟩ := bnd1_some hm
          refine g_calli (w2 := (wd_4273f5 k n_t n_text n_now n_past n_slots n_sightings n_survey n_trial n_now_rows v_filledSlots v_seedNow v_now_size v_now_stations r_now_rows)) (va_runS (As := [.int r8, .int x1]) (rest := []) ⟨hx, hb, hml, hown, hts⟩ (m_X5_holds l dC dI k H.size  r8 x1 e11) (va_cwS 2 hts gX5_falls_X5_holds rfl rfl rfl (by decide +kernel) ⟨Nat.le_of_ble_eq_true rfl, Nat.le_of_ble_eq_true rfl⟩) (g_preS hG hP hD hS hA [] rfl (by decide)) rfl rfl hl.1 rfl (lv_room (Nat.le_of_ble_eq_true rfl)) dX5_falls_85 ⟨Nat.le_of_ble_eq_true rfl, Nat.le_of_ble_eq_true rfl⟩) hP hD hS hA [] [0, 1, 2] [0, 1, 2] rfl rfl (by decide) (by decide) rfl (by decide) (fun H locs hP hD hS => ?_)
          refine lv_if_eq (tgt := 122) hx hb dX5_falls_88 (by decide) (fun c12 => ?_) (fun c12 => ?_)
          · replace hm := ifp c12 hm
            exact J_122 _ _ _ _ _ _ _ _ _ _ (lv_sub hl [0, 1, 2, 3, 4, 5, 6, 7] rfl) hP hD hS hm
          · replace hm := ifn c12 hm
            refine lv_iload hx hb dX5_falls_91 (lv_at hl 7 rfl) ?_
            obtain ⟨r13, e14, hm⟩ := bnd1_some hm
            refine g_calli (w2 := (wd_4273f5 k n_t n_text n_now n_past n_slots n_sightings n_survey n_trial n_now_rows v_filledSlots v_seedNow v_now_size v_now_stations r_now_rows)) (va_runS (As := [.int x8]) (rest := []) ⟨hx, hb, hml, hown, hts⟩ (m_J6_bitCount_0f7a4 l dC dI k H.size  x8 e14) (va_cwS 1 hts gX5_falls_J6_bitCount_0f7a4 rfl rfl rfl (by decide +kernel) ⟨Nat.le_of_ble_eq_true rfl, Nat.le_of_ble_eq_true rfl⟩) (g_preS hG hP hD hS hA [] rfl (by decide)) rfl rfl hl.1 rfl (lv_room (Nat.le_of_ble_eq_true rfl)) dX5_falls_93 ⟨Nat.le_of_ble_eq_true rfl, Nat.le_of_ble_eq_true rfl⟩) hP hD hS hA [] [0, 1, 2] [0, 1, 2] rfl rfl (by decide) (by decide) rfl (by decide) (fun H locs hP hD hS => ?_)
            refine lv_istore (lv' := [(9, .int r13), (0, .ref n_t), (1, .int x1), (3, .int x3), (4, .int x4), (5, .int x5), (6, .int x6), (7, .int x7), (8, .int x8)]) hx hb dX5_falls_96 hl (by decide) rfl (fun ls hl => ?_)
            refine lv_iload hx hb dX5_falls_98 (lv_at hl 7 rfl) ?_
            refine lv_bipush (v := (10 : Int32)) hx hb dX5_falls_100 (by decide) ?_
            refine lv_iload_n hx hb dX5_falls_102 rfl (lv_at hl 3 rfl) ?_
            refine lv_isub hx hb dX5_falls_103 ?_
            refine lv_iload hx hb dX5_falls_104 (lv_at hl 0 rfl) ?_
            obtain ⟨r15, e16, hm⟩ := bnd1_some hm
            refine g_calli (w2 := (wd_4273f5 k n_t n_text n_now n_past n_slots n_sightings n_survey n_trial n_now_rows v_filledSlots v_seedNow v_now_size v_now_stations r_now_rows)) (va_runS (As := [.int ((10 : Int32) - x3), .int r13]) (rest := [.int x7]) ⟨hx, hb, hml, hown, hts⟩ (m_X5_power l dC dI k F H.size  ((10 : Int32) - x3) r13 e16) (va_cwS 2 hts gX5_falls_X5_power rfl rfl rfl (by decide +kernel) ⟨Nat.le_of_ble_eq_true rfl, Nat.le_of_ble_eq_true rfl⟩) (g_preS hG hP hD hS hA [] rfl (by decide)) rfl rfl hl.1 rfl (lv_room (Nat.le_of_ble_eq_true rfl)) dX5_falls_106 ⟨Nat.le_of_ble_eq_true rfl, Nat.le_of_ble_eq_true rfl⟩) hP hD hS hA [] [0, 1, 2] [0, 1, 2] rfl rfl (by decide) (by decide) rfl (by decide) (fun H locs hP hD hS => ?_)
            refine lv_iload_n hx hb dX5_falls_109 rfl (lv_at hl 3 rfl) ?_
            refine lv_iload hx hb dX5_falls_110 (lv_at hl 6 rfl) ?_
            refine lv_iload hx hb dX5_falls_112 (lv_at hl 0 rfl) ?_
            refine lv_isub hx hb dX5_falls_114 ?_
            obtain ⟨r17, e18, hm⟩ := bnd1_some hm
            refine g_calli (w2 := (wd_4273f5 k n_t n_text n_now n_past n_slots n_sightings n_survey n_trial n_now_rows v_filledSlots v_seedNow v_now_size v_now_stations r_now_rows)) (va_runS (As := [.int x3, .int (x6 - r13)]) (rest := [.int r15, .int x7]) ⟨hx, hb, hml, hown, hts⟩ (m_X5_power l dC dI k F H.size  x3 (x6 - r13) e18) (va_cwS 2 hts gX5_falls_X5_power rfl rfl rfl (by decide +kernel) ⟨Nat.le_of_ble_eq_true rfl, Nat.le_of_ble_eq_true rfl⟩) (g_preS hG hP hD hS hA [] rfl (by decide)) rfl rfl hl.1 rfl (lv_room (Nat.le_of_ble_eq_true rfl)) dX5_falls_115 ⟨Nat.le_of_ble_eq_true rfl, Nat.le_of_ble_eq_true rfl⟩) hP hD hS hA [] [0, 1, 2] [0, 1, 2] rfl rfl (by decide) (by decide) rfl (by decide) (fun H locs hP hD hS => ?_)
            refine lv_imul hx hb dX5_falls_118 ?_
            refine lv_iadd hx hb dX5_falls_119 ?_
            refine lv_topi (fun t19 et19 => ?_)
            replace hm := (nmd_eq et19).trans hm
            refine lv_istore (lv' := [(7, .int t19), (9, .int r13), (0, .ref n_t), (1, .int x1), (3, .int x3), (4, .int x4), (5, .int x5), (6, .int x6), (8, .int x8)]) hx hb dX5_falls_120 hl (by decide) rfl (fun ls hl => ?_)
            exact J_122 _ _ _ _ _ _ _ _ _ _ (lv_sub hl [2, 3, 4, 5, 6, 7, 0, 8] rfl) hP hD hS hm
  unfold f_X5_falls at hm
  refine lv_aload_n hx hb dX5_falls_0 rfl (lv_at hl 0 rfl) ?_
  refine va_get (D := (dC, dI)) (ci := 5) (v := .ref n_now) (C := RX5) (T := TX5) (N := 9) hx hb hts hinX5 hown hG.1 hP 0 rfl rfl 1 (by decide) k0 (fun _ h9 => h9) rfl dX5_falls_1 ?_
  refine lv_iload_n hx hb dX5_falls_4 rfl (lv_at hl 1 rfl) ?_
  obtain ⟨r20, e21, hm⟩ := bnd1_some hm
  refine g_calli (w2 := (wd_4273f5 k n_t n_text n_now n_past n_slots n_sightings n_survey n_trial n_now_rows v_filledSlots v_seedNow v_now_size v_now_stations r_now_rows)) (va_runV (As := [.int x1]) (rest := []) ⟨hx, hb, hml, hown, hts⟩ (m_X0_hasStation l dC dI k H.size n_now n_now_rows v_now_size v_now_stations x1 e21) (cwV 1 hts gX5_falls_X0_hasStation rfl rfl rfl (by decide +kernel) ⟨Nat.le_of_ble_eq_true rfl, Nat.le_of_ble_eq_true rfl⟩) (g_preV hG hP hD hS hA [1] rfl (by decide) (ci := 0) (q0 := 1) rfl rfl) rfl rfl hl.1 rfl (lv_room (Nat.le_of_ble_eq_true rfl)) dX5_falls_5 ⟨Nat.le_of_ble_eq_true rfl, Nat.le_of_ble_eq_true rfl⟩) hP hD hS hA [1] [0, 2] [0, 2, 1] rfl rfl (by decide) (by decide) rfl (by decide) (fun H locs hP hD hS => ?_)
  refine lv_if_ne (tgt := 13) hx hb dX5_falls_8 (by decide) (fun c22 => ?_) (fun c22 => ?_)
  · replace hm := ifn c22 hm
    refine lv_iload_n hx hb dX5_falls_13 rfl (lv_at hl 2 rfl) ?_
    obtain ⟨r23, e24, hm⟩ := bnd1_some hm
    refine g_calli (w2 := (wd_4273f5 k n_t n_text n_now n_past n_slots n_sightings n_survey n_trial n_now_rows v_filledSlots v_seedNow v_now_size v_now_stations r_now_rows)) (va_runS (As := [.int x2]) (rest := []) ⟨hx, hb, hml, hown, hts⟩ (m_X5_isGirth l dC dI k H.size  x2 e24) (va_cwS 1 hts gX5_falls_X5_isGirth rfl rfl rfl (by decide +kernel) ⟨Nat.le_of_ble_eq_true rfl, Nat.le_of_ble_eq_true rfl⟩) (g_preS hG hP hD hS hA [] rfl (by decide)) rfl rfl hl.1 rfl (lv_room (Nat.le_of_ble_eq_true rfl)) dX5_falls_14 ⟨Nat.le_of_ble_eq_true rfl, Nat.le_of_ble_eq_true rfl⟩) hP hD hS hA [] [0, 1, 2] [0, 1, 2] rfl rfl (by decide) (by decide) rfl (by decide) (fun H locs hP hD hS => ?_)
    refine lv_if_eq (tgt := 30) hx hb dX5_falls_17 (by decide) (fun c25 => ?_) (fun c25 => ?_)
    · replace hm := ifp c25 hm
      refine lv_bipush (v := (-2 : Int32)) hx hb dX5_falls_30 (by decide) ?_
      exact RET _ _ _ _ _ dX5_falls_32 hm hP hD hS
    · replace hm := ifn c25 hm
      refine lv_iload_n hx hb dX5_falls_20 rfl (lv_at hl 3 rfl) ?_
      refine lv_if_lt (tgt := 30) hx hb dX5_falls_21 (by decide) (fun c26 => ?_) (fun c26 => ?_)
      · replace hm := ifp c26 hm
        refine lv_bipush (v := (-2 : Int32)) hx hb dX5_falls_30 (by decide) ?_
        exact RET _ _ _ _ _ dX5_falls_32 hm hP hD hS
      · replace hm := ifn c26 hm
        refine lv_iload_n hx hb dX5_falls_24 rfl (lv_at hl 3 rfl) ?_
        refine lv_bipush (v := (10 : Int32)) hx hb dX5_falls_25 (by decide) ?_
        refine lv_icmp_le (tgt := 33) hx hb dX5_falls_27 (by decide) (fun c27 => ?_) (fun c27 => ?_)
        · replace hm := ifp c27 hm
          refine lv_aload_n hx hb dX5_falls_33 rfl (lv_at hl 0 rfl) ?_
          refine va_get (D := (dC, dI)) (ci := 5) (v := .ref n_now) (C := RX5) (T := TX5) (N := 9) hx hb hts hinX5 hown hG.1 hP 0 rfl rfl 1 (by decide) k0 (fun _ h9 => h9) rfl dX5_falls_34 ?_
          refine lv_iload_n hx hb dX5_falls_37 rfl (lv_at hl 2 rfl) ?_
          obtain ⟨r28, e29, hm⟩ := bnd1_some hm
          refine g_calli (w2 := (wd_4273f5 k n_t n_text n_now n_past n_slots n_sightings n_survey n_trial n_now_rows v_filledSlots v_seedNow v_now_size v_now_stations r_now_rows)) (va_runV (As := [.int x2]) (rest := []) ⟨hx, hb, hml, hown, hts⟩ (m_X0_open l dC dI k F H.size n_now n_now_rows v_now_size v_now_stations r_now_rows x2 e29) (cwV 1 hts gX5_falls_X0_open rfl rfl rfl (by decide +kernel) ⟨Nat.le_of_ble_eq_true rfl, Nat.le_of_ble_eq_true rfl⟩) (g_preV hG hP hD hS hA [1, 2] rfl (by decide) (ci := 0) (q0 := 1) rfl rfl) rfl rfl hl.1 rfl (lv_room (Nat.le_of_ble_eq_true rfl)) dX5_falls_38 ⟨Nat.le_of_ble_eq_true rfl, Nat.le_of_ble_eq_true rfl⟩) hP hD hS hA [1, 2] [0] [0, 1, 2] rfl rfl (by decide) (by decide) rfl (by decide) (fun H locs hP hD hS => ?_)
          refine lv_istore (lv' := [(5, .int r28), (0, .ref n_t), (1, .int x1), (2, .int x2), (3, .int x3), (4, .int x4)]) hx hb dX5_falls_41 hl (by decide) rfl (fun ls hl => ?_)
          refine lv_iload hx hb dX5_falls_43 (lv_at hl 0 rfl) ?_
          obtain ⟨r30, e31, hm⟩ := bnd1_some hm
          refine g_calli (w2 := (wd_4273f5 k n_t n_text n_now n_past n_slots n_sightings n_survey n_trial n_now_rows v_filledSlots v_seedNow v_now_size v_now_stations r_now_rows)) (va_runS (As := [.int r28]) (rest := []) ⟨hx, hb, hml, hown, hts⟩ (m_J6_bitCount_0f7a4 l dC dI k H.size  r28 e31) (va_cwS 1 hts gX5_falls_J6_bitCount_0f7a4 rfl rfl rfl (by decide +kernel) ⟨Nat.le_of_ble_eq_true rfl, Nat.le_of_ble_eq_true rfl⟩) (g_preS hG hP hD hS hA [] rfl (by decide)) rfl rfl hl.1 rfl (lv_room (Nat.le_of_ble_eq_true rfl)) dX5_falls_45 ⟨Nat.le_of_ble_eq_true rfl, Nat.le_of_ble_eq_true rfl⟩) hP hD hS hA [] [0, 1, 2] [0, 1, 2] rfl rfl (by decide) (by decide) rfl (by decide) (fun H locs hP hD hS => ?_)
          refine lv_istore (lv' := [(6, .int r30), (5, .int r28), (0, .ref n_t), (1, .int x1), (2, .int x2), (3, .int x3), (4, .int x4)]) hx hb dX5_falls_48 hl (by decide) rfl (fun ls hl => ?_)
          refine lv_iconst (v := (0 : Int32)) hx hb dX5_falls_50 (by decide) ?_
          refine lv_istore (lv' := [(7, .int (0 : Int32)), (6, .int r30), (5, .int r28), (0, .ref n_t), (1, .int x1), (2, .int x2), (3, .int x3), (4, .int x4)]) hx hb dX5_falls_51 hl (by decide) rfl (fun ls hl => ?_)
          refine lv_iconst (v := (0 : Int32)) hx hb dX5_falls_53 (by decide) ?_
          refine lv_istore (lv' := [(8, .int (0 : Int32)), (7, .int (0 : Int32)), (6, .int r30), (5, .int r28), (0, .ref n_t), (1, .int x1), (2, .int x2), (3, .int x3), (4, .int x4)]) hx hb dX5_falls_54 hl (by decide) rfl (fun ls hl => ?_)
          exact L_56 F _ _ _ _ _ _ _ _ _ _ (lv_sub hl [4, 5, 7, 8, 3, 2, 1, 0] rfl) hP hD hS hm
        · replace hm := ifn c27 hm
          refine lv_bipush (v := (-2 : Int32)) hx hb dX5_falls_30 (by decide) ?_
          exact RET _ _ _ _ _ dX5_falls_32 hm hP hD hS
  · replace hm := ifp c22 hm
    refine lv_iconst (v := (-1 : Int32)) hx hb dX5_falls_11 (by decide) ?_
    exact RET _ _ _ _ _ dX5_falls_12 hm hP hD hS
set_option maxRecDepth 100000 in
theorem m_X5_falls (l : Launch) (dC : Nat → ClassId) (dI : Nat → Nat → Nat) (k : Nat → ClassId) (F : Nat) (sz : Nat) (n_t n_text n_now n_past n_slots n_sightings n_survey n_trial n_now_rows : Nat) (v_filledSlots : Int32) (v_seedNow : Int64) (v_now_size : Int32) (v_now_stations : Int32) (r_now_rows : Nat → Int32) (x1 : Int32) (x2 : Int32) (x3 : Int32) (x4 : Int32) {o_r : Int32} (hm : f_X5_falls F x1 x2 x3 x4 v_now_size v_now_stations r_now_rows = some o_r) : Met l yX5_falls wsX5_falls rm_X5_falls (gPre dC dI k [.ref n_t, .int x1, .int x2, .int x3, .int x4] sz (wd_4273f5 k n_t n_text n_now n_past n_slots n_sightings n_survey n_trial n_now_rows v_filledSlots v_seedNow v_now_size v_now_stations r_now_rows)) (gQI dC dI (va_A (wd_4273f5 k n_t n_text n_now n_past n_slots n_sightings n_survey n_trial n_now_rows v_filledSlots v_seedNow v_now_size v_now_stations r_now_rows) sz) o_r (wd_4273f5 k n_t n_text n_now n_past n_slots n_sightings n_survey n_trial n_now_rows v_filledSlots v_seedNow v_now_size v_now_stations r_now_rows)) 0 0 (va_A (wd_4273f5 k n_t n_text n_now n_past n_slots n_sightings n_survey n_trial n_now_rows v_filledSlots v_seedNow v_now_size v_now_stations r_now_rows) sz) := by
  refine g_entry (cc := cX5_falls) (maxL := 10) (ret := (some .int)) (lv := [(0, .ref n_t), (1, .int x1), (2, .int x2), (3, .int x3), (4, .int x4)]) (by decide +kernel) rfl (Nat.le_of_ble_eq_true rfl) rfl (fun p e s m below meth c ls hx hb hr hml hts hown hlk hnm hsz hG hA hP hD hS hl => ?_)
  exact k_X5_falls hx hb hml hts hown hG hA F n_t n_text n_now n_past n_slots n_sightings n_survey n_trial n_now_rows v_filledSlots v_seedNow v_now_size v_now_stations r_now_rows x1 x2 x3 x4 o_r (fun pc H locs ls v hd ho hP hD hS => by cases ho; exact g_ireti hx hb hr hlk hP hD hS hd) s.heap [] ls hl hP hD hS hm
end
section
set_option maxHeartbeats 4000000 in
set_option maxRecDepth 100000 in
theorem k_X5_seed {p : Program} {l : Launch} {e : Env} {s : State} {m : MethodId} {args : Array Value} {below : List Frame} {meth : Method} {c : Code} {A : Nat → Prop} {Q : State → Prop} {dC : Nat → ClassId} {dI : Nat → Nat → Nat} {k : Nat → ClassId} (hx : p.tables.exec = Jvm.exec) (hb : c.code = cX5_seed) (hml : c.maxLocals = 5) (hts : ∀ w ∈ wsX5_seed, w.before args s = true) (hown : s.vm.findClass RX5 = some m.cls) (hG : gK dC dI k A s) (hA : ∀ q : Nat, s.heap.size ≤ q → A q) (n_t n_text n_now n_past n_slots n_sightings n_survey n_trial : Nat) (v_filledSlots : Int32) (v_seedNow : Int64) (x1 : Int64) (o_r : Int64) (o_v_seedNow : (Int64)) (RET : ∀ (pc : Nat) (H : Heap) (locs : List Loc) (ls : Array Slot) (v : Int64) (q_v_seedNow : Int64), decode cX5_seed pc = .ok (.lreturn, 1) → some (v, q_v_seedNow) = some (o_r, o_v_seedNow) → va_P (dC, dI) vwCl (wd_0b179a k n_t n_text n_now n_past n_slots n_sightings n_survey n_trial v_filledSlots q_v_seedNow) H → va_D A (wd_0b179a k n_t n_text n_now n_past n_slots n_sightings n_survey n_trial v_filledSlots q_v_seedNow) → va_S A s.heap H locs → W p l e rm_X5_seed s m args below meth c H locs 0 0 Q (F0 m pc ls [.long v])) (H : Heap) (locs : List Loc) (ls : Array Slot) (hl : lv_has ls 5 [(0, .ref n_t), (1, .long x1)]) (hP : va_P (dC, dI) vwCl (wd_0b179a k n_t n_text n_now n_past n_slots n_sightings n_survey n_trial v_filledSlots v_seedNow) H) (hD : va_D A (wd_0b179a k n_t n_text n_now n_past n_slots n_sightings n_survey n_trial v_filledSlots v_seedNow)) (hS : va_S A s.heap H locs) (hm : f_X5_seed x1 v_seedNow = some (o_r, o_v_seedNow)) : W p l e rm_X5_seed s m args below meth c H locs 0 0 Q (F0 m 0 ls []) := by
  have hinX5 : ∀ w ∈ u_ws RX5 TX5 9, w ∈ wsX5_seed := by decide +kernel
  have k0 := hts (.fieldLink RX5 228 "CaveLegs" "seedNow" "J") (by decide +kernel)
  unfold f_X5_seed at hm
  refine lv_aload_n hx hb dX5_seed_0 rfl (lv_at hl 0 rfl) ?_
  refine va_get (D := (dC, dI)) (ci := 5) (v := .long v_seedNow) (C := RX5) (T := TX5) (N := 9) hx hb hts hinX5 hown hG.1 hP 0 rfl rfl 8 (by decide) k0 (fun _ h9 => h9) rfl dX5_seed_1 ?_
  refine lv_lstore_n (lv' := [(3, .long v_seedNow), (0, .ref n_t), (1, .long x1)]) hx hb dX5_seed_4 rfl hl (by decide) rfl (fun ls hl => ?_)
  refine lv_aload_n hx hb dX5_seed_5 rfl (lv_at hl 1 rfl) ?_
  refine lv_lload_n hx hb dX5_seed_6 rfl (lv_at hl 2 rfl) ?_
  refine va_put (D := (dC, dI)) (ci := 5) (v := .long x1) (ty := .long) (C := RX5) (T := TX5) (N := 9) hx hb hts hinX5 tyX5 tyX5_ok nmX5 hown hG.1 hP hD hS 0 rfl rfl 8 (by decide) k0 (fun _ h9 => h9) rfl (by decide +kernel) rfl rfl (Nat.le_of_ble_eq_true rfl) dX5_seed_7 (fun H locs hP hD hS => ?_)
  replace hP : va_P (dC, dI) vwCl (wd_0b179a k n_t n_text n_now n_past n_slots n_sightings n_survey n_trial v_filledSlots x1) H := hP
  replace hD : va_D A (wd_0b179a k n_t n_text n_now n_past n_slots n_sightings n_survey n_trial v_filledSlots x1) := hD
  refine lv_lload_n hx hb dX5_seed_10 rfl (lv_at hl 0 rfl) ?_
  exact RET _ _ _ _ _ _ dX5_seed_11 hm hP hD hS
set_option maxRecDepth 100000 in
theorem m_X5_seed (l : Launch) (dC : Nat → ClassId) (dI : Nat → Nat → Nat) (k : Nat → ClassId) (sz : Nat) (n_t n_text n_now n_past n_slots n_sightings n_survey n_trial : Nat) (v_filledSlots : Int32) (v_seedNow : Int64) (x1 : Int64) {o_r : Int64} {o_v_seedNow : (Int64)} (hm : f_X5_seed x1 v_seedNow = some (o_r, o_v_seedNow)) : Met l yX5_seed wsX5_seed rm_X5_seed (gPre dC dI k [.ref n_t, .long x1] sz (wd_0b179a k n_t n_text n_now n_past n_slots n_sightings n_survey n_trial v_filledSlots v_seedNow)) (gQL dC dI (va_A (wd_0b179a k n_t n_text n_now n_past n_slots n_sightings n_survey n_trial v_filledSlots v_seedNow) sz) o_r (wd_0b179a k n_t n_text n_now n_past n_slots n_sightings n_survey n_trial v_filledSlots o_v_seedNow)) 0 0 (va_A (wd_0b179a k n_t n_text n_now n_past n_slots n_sightings n_survey n_trial v_filledSlots v_seedNow) sz) := by
  refine g_entry (cc := cX5_seed) (maxL := 5) (ret := (some .long)) (lv := [(0, .ref n_t), (1, .long x1)]) (by decide +kernel) rfl (Nat.le_of_ble_eq_true rfl) rfl (fun p e s m below meth c ls hx hb hr hml hts hown hlk hnm hsz hG hA hP hD hS hl => ?_)
  exact k_X5_seed hx hb hml hts hown hG hA n_t n_text n_now n_past n_slots n_sightings n_survey n_trial v_filledSlots v_seedNow x1 o_r o_v_seedNow (fun pc H locs ls v q_v_seedNow hd ho hP hD hS => by cases ho; exact g_lret hx hb hr hlk hP hD hS hd) s.heap [] ls hl hP hD hS hm
end
section
set_option maxHeartbeats 4000000 in
set_option maxRecDepth 100000 in
theorem k_X5_walked {p : Program} {l : Launch} {e : Env} {s : State} {m : MethodId} {args : Array Value} {below : List Frame} {meth : Method} {c : Code} {A : Nat → Prop} {Q : State → Prop} {dC : Nat → ClassId} {dI : Nat → Nat → Nat} {k : Nat → ClassId} (hx : p.tables.exec = Jvm.exec) (hb : c.code = cX5_walked) (hml : c.maxLocals = 7) (hts : ∀ w ∈ wsX5_walked, w.before args s = true) (hown : s.vm.findClass RX5 = some m.cls) (hG : gK dC dI k A s) (hA : ∀ q : Nat, s.heap.size ≤ q → A q) (n_t n_text n_now n_past n_slots n_sightings n_survey n_trial n_now_rows : Nat) (v_filledSlots : Int32) (v_seedNow : Int64) (v_now_size : Int32) (v_now_stations : Int32) (r_now_rows : Nat → Int32) (x1 : Int32) (x2 : Int64) (o_r : Int32) (RET : ∀ (pc : Nat) (H : Heap) (locs : List Loc) (ls : Array Slot) (v : Int32), decode cX5_walked pc = .ok (.ireturn, 1) → some v = some o_r → va_P (dC, dI) vwCl (wd_4273f5 k n_t n_text n_now n_past n_slots n_sightings n_survey n_trial n_now_rows v_filledSlots v_seedNow v_now_size v_now_stations r_now_rows) H → va_D A (wd_4273f5 k n_t n_text n_now n_past n_slots n_sightings n_survey n_trial n_now_rows v_filledSlots v_seedNow v_now_size v_now_stations r_now_rows) → va_S A s.heap H locs → W p l e rm_X5_walked s m args below meth c H locs 0 0 Q (F0 m pc ls [.int v])) (H : Heap) (locs : List Loc) (ls : Array Slot) (hl : lv_has ls 7 [(0, .ref n_t), (1, .int x1), (2, .long x2)]) (hP : va_P (dC, dI) vwCl (wd_4273f5 k n_t n_text n_now n_past n_slots n_sightings n_survey n_trial n_now_rows v_filledSlots v_seedNow v_now_size v_now_stations r_now_rows) H) (hD : va_D A (wd_4273f5 k n_t n_text n_now n_past n_slots n_sightings n_survey n_trial n_now_rows v_filledSlots v_seedNow v_now_size v_now_stations r_now_rows)) (hS : va_S A s.heap H locs) (hm : f_X5_walked x1 x2 v_now_size r_now_rows = some o_r) : W p l e rm_X5_walked s m args below meth c H locs 0 0 Q (F0 m 0 ls []) := by
  have hinX0 : ∀ w ∈ u_ws RX0 TX0 3, w ∈ wsX5_walked := by decide +kernel
  have hinX5 : ∀ w ∈ u_ws RX5 TX5 9, w ∈ wsX5_walked := by decide +kernel
  have k0 := hts (.fieldLink RX5 19 "CaveLegs" "now" "LCaveLegs$Legs;") (by decide +kernel)
  have k1 := hts (.fieldLink RX5 73 "CaveLegs$Legs" "size" "I") (by decide +kernel)
  unfold f_X5_walked at hm
  refine lv_aload_n hx hb dX5_walked_0 rfl (lv_at hl 0 rfl) ?_
  refine va_get (D := (dC, dI)) (ci := 5) (v := .ref n_now) (C := RX5) (T := TX5) (N := 9) hx hb hts hinX5 hown hG.1 hP 0 rfl rfl 1 (by decide) k0 (fun _ h9 => h9) rfl dX5_walked_1 ?_
  refine va_get (D := (dC, dI)) (ci := 0) (v := .int v_now_size) (C := RX0) (T := TX0) (N := 3) hx hb hts hinX0 hown hG.1 hP 1 rfl rfl 1 (by decide) k1 (fun _ h9 => h9) rfl dX5_walked_4 ?_
  refine lv_iconst (v := (1 : Int32)) hx hb dX5_walked_7 (by decide) ?_
  refine lv_icmp_ge (tgt := 13) hx hb dX5_walked_8 (by decide) (fun c1 => ?_) (fun c1 => ?_)
  · replace hm := ifp c1 hm
    refine lv_lload_n hx hb dX5_walked_13 rfl (lv_at hl 2 rfl) ?_
    refine lv_aload_n hx hb dX5_walked_14 rfl (lv_at hl 0 rfl) ?_
    refine va_get (D := (dC, dI)) (ci := 5) (v := .ref n_now) (C := RX5) (T := TX5) (N := 9) hx hb hts hinX5 hown hG.1 hP 0 rfl rfl 1 (by decide) k0 (fun _ h9 => h9) rfl dX5_walked_15 ?_
    refine va_get (D := (dC, dI)) (ci := 0) (v := .int v_now_size) (C := RX0) (T := TX0) (N := 3) hx hb hts hinX0 hown hG.1 hP 1 rfl rfl 1 (by decide) k1 (fun _ h9 => h9) rfl dX5_walked_18 ?_
    refine g_i2l hx hb dX5_walked_21 ?_
    obtain ⟨hz2, hm⟩ := chkDL_some hm
    refine g_lrem hx hb dX5_walked_22 hz2 ?_
    refine g_l2i hx hb dX5_walked_23 ?_
    refine lv_topi (fun t3 et3 => ?_)
    replace hm := (nmd_eq et3).trans hm
    refine lv_istore (lv' := [(4, .int t3), (0, .ref n_t), (1, .int x1), (2, .long x2)]) hx hb dX5_walked_24 hl (by decide) rfl (fun ls hl => ?_)
    refine lv_aload_n hx hb dX5_walked_26 rfl (lv_at hl 1 rfl) ?_
    refine va_get (D := (dC, dI)) (ci := 5) (v := .ref n_now) (C := RX5) (T := TX5) (N := 9) hx hb hts hinX5 hown hG.1 hP 0 rfl rfl 1 (by decide) k0 (fun _ h9 => h9) rfl dX5_walked_27 ?_
    refine lv_iload hx hb dX5_walked_30 (lv_at hl 0 rfl) ?_
    refine lv_bipush (v := (6 : Int32)) hx hb dX5_walked_32 (by decide) ?_
    obtain ⟨r4, e5, hm⟩ := bnd1_some hm
    refine g_calli (w2 := (wd_4273f5 k n_t n_text n_now n_past n_slots n_sightings n_survey n_trial n_now_rows v_filledSlots v_seedNow v_now_size v_now_stations r_now_rows)) (va_runV (As := [.int t3, .int (6 : Int32)]) (rest := []) ⟨hx, hb, hml, hown, hts⟩ (m_X0_get l dC dI k H.size n_now n_now_rows v_now_size v_now_stations r_now_rows t3 (6 : Int32) e5) (cwV 2 hts gX5_walked_X0_get rfl rfl rfl (by decide +kernel) ⟨Nat.le_of_ble_eq_true rfl, Nat.le_of_ble_eq_true rfl⟩) (g_preV hG hP hD hS hA [1, 2] rfl (by decide) (ci := 0) (q0 := 1) rfl rfl) rfl rfl hl.1 rfl (lv_room (Nat.le_of_ble_eq_true rfl)) dX5_walked_34 ⟨Nat.le_of_ble_eq_true rfl, Nat.le_of_ble_eq_true rfl⟩) hP hD hS hA [1, 2] [0] [0, 1, 2] rfl rfl (by decide) (by decide) rfl (by decide) (fun H locs hP hD hS => ?_)
    refine lv_if_eq (tgt := 42) hx hb dX5_walked_37 (by decide) (fun c6 => ?_) (fun c6 => ?_)
    · replace hm := ifp c6 hm
      refine lv_aload_n hx hb dX5_walked_42 rfl (lv_at hl 1 rfl) ?_
      refine va_get (D := (dC, dI)) (ci := 5) (v := .ref n_now) (C := RX5) (T := TX5) (N := 9) hx hb hts hinX5 hown hG.1 hP 0 rfl rfl 1 (by decide) k0 (fun _ h9 => h9) rfl dX5_walked_43 ?_
      refine lv_iload hx hb dX5_walked_46 (lv_at hl 0 rfl) ?_
      refine lv_iconst (v := (4 : Int32)) hx hb dX5_walked_48 (by decide) ?_
      obtain ⟨r7, e8, hm⟩ := bnd1_some hm
      refine g_calli (w2 := (wd_4273f5 k n_t n_text n_now n_past n_slots n_sightings n_survey n_trial n_now_rows v_filledSlots v_seedNow v_now_size v_now_stations r_now_rows)) (va_runV (As := [.int t3, .int (4 : Int32)]) (rest := []) ⟨hx, hb, hml, hown, hts⟩ (m_X0_get l dC dI k H.size n_now n_now_rows v_now_size v_now_stations r_now_rows t3 (4 : Int32) e8) (cwV 2 hts gX5_walked_X0_get rfl rfl rfl (by decide +kernel) ⟨Nat.le_of_ble_eq_true rfl, Nat.le_of_ble_eq_true rfl⟩) (g_preV hG hP hD hS hA [1, 2] rfl (by decide) (ci := 0) (q0 := 1) rfl rfl) rfl rfl hl.1 rfl (lv_room (Nat.le_of_ble_eq_true rfl)) dX5_walked_49 ⟨Nat.le_of_ble_eq_true rfl, Nat.le_of_ble_eq_true rfl⟩) hP hD hS hA [1, 2] [0] [0, 1, 2] rfl rfl (by decide) (by decide) rfl (by decide) (fun H locs hP hD hS => ?_)
      refine lv_istore (lv' := [(5, .int r7), (4, .int t3), (0, .ref n_t), (1, .int x1), (2, .long x2)]) hx hb dX5_walked_52 hl (by decide) rfl (fun ls hl => ?_)
      refine lv_aload_n hx hb dX5_walked_54 rfl (lv_at hl 2 rfl) ?_
      refine va_get (D := (dC, dI)) (ci := 5) (v := .ref n_now) (C := RX5) (T := TX5) (N := 9) hx hb hts hinX5 hown hG.1 hP 0 rfl rfl 1 (by decide) k0 (fun _ h9 => h9) rfl dX5_walked_55 ?_
      refine lv_iload hx hb dX5_walked_58 (lv_at hl 1 rfl) ?_
      refine lv_iconst (v := (5 : Int32)) hx hb dX5_walked_60 (by decide) ?_
      obtain ⟨r9, e10, hm⟩ := bnd1_some hm
      refine g_calli (w2 := (wd_4273f5 k n_t n_text n_now n_past n_slots n_sightings n_survey n_trial n_now_rows v_filledSlots v_seedNow v_now_size v_now_stations r_now_rows)) (va_runV (As := [.int t3, .int (5 : Int32)]) (rest := []) ⟨hx, hb, hml, hown, hts⟩ (m_X0_get l dC dI k H.size n_now n_now_rows v_now_size v_now_stations r_now_rows t3 (5 : Int32) e10) (cwV 2 hts gX5_walked_X0_get rfl rfl rfl (by decide +kernel) ⟨Nat.le_of_ble_eq_true rfl, Nat.le_of_ble_eq_true rfl⟩) (g_preV hG hP hD hS hA [1, 2] rfl (by decide) (ci := 0) (q0 := 1) rfl rfl) rfl rfl hl.1 rfl (lv_room (Nat.le_of_ble_eq_true rfl)) dX5_walked_61 ⟨Nat.le_of_ble_eq_true rfl, Nat.le_of_ble_eq_true rfl⟩) hP hD hS hA [1, 2] [0] [0, 1, 2] rfl rfl (by decide) (by decide) rfl (by decide) (fun H locs hP hD hS => ?_)
      refine lv_istore (lv' := [(6, .int r9), (5, .int r7), (4, .int t3), (0, .ref n_t), (1, .int x1), (2, .long x2)]) hx hb dX5_walked_64 hl (by decide) rfl (fun ls hl => ?_)
      refine lv_iload_n hx hb dX5_walked_66 rfl (lv_at hl 4 rfl) ?_
      refine lv_iload hx hb dX5_walked_67 (lv_at hl 1 rfl) ?_
      refine lv_icmp_ne (tgt := 75) hx hb dX5_walked_69 (by decide) (fun c11 => ?_) (fun c11 => ?_)
      · replace hm := ifn c11 hm
        refine lv_iload_n hx hb dX5_walked_75 rfl (lv_at hl 4 rfl) ?_
        refine lv_iload hx hb dX5_walked_76 (lv_at hl 0 rfl) ?_
        refine lv_icmp_ne (tgt := 86) hx hb dX5_walked_78 (by decide) (fun c12 => ?_) (fun c12 => ?_)
        · replace hm := ifn c12 hm
          refine lv_iload_n hx hb dX5_walked_86 rfl (lv_at hl 4 rfl) ?_
          exact RET _ _ _ _ _ dX5_walked_87 hm hP hD hS
        · replace hm := ifp c12 hm
          refine lv_iload hx hb dX5_walked_81 (lv_at hl 1 rfl) ?_
          refine lv_goto (tgt := 87) hx hb dX5_walked_83 (by decide) ?_
          exact RET _ _ _ _ _ dX5_walked_87 hm hP hD hS
      · replace hm := ifp c11 hm
        refine lv_iload hx hb dX5_walked_72 (lv_at hl 0 rfl) ?_
        exact RET _ _ _ _ _ dX5_walked_74 hm hP hD hS
    · replace hm := ifn c6 hm
      refine lv_iload_n hx hb dX5_walked_40 rfl (lv_at hl 2 rfl) ?_
      exact RET _ _ _ _ _ dX5_walked_41 hm hP hD hS
  · replace hm := ifn c1 hm
    refine lv_iload_n hx hb dX5_walked_11 rfl (lv_at hl 1 rfl) ?_
    exact RET _ _ _ _ _ dX5_walked_12 hm hP hD hS
set_option maxRecDepth 100000 in
theorem m_X5_walked (l : Launch) (dC : Nat → ClassId) (dI : Nat → Nat → Nat) (k : Nat → ClassId) (sz : Nat) (n_t n_text n_now n_past n_slots n_sightings n_survey n_trial n_now_rows : Nat) (v_filledSlots : Int32) (v_seedNow : Int64) (v_now_size : Int32) (v_now_stations : Int32) (r_now_rows : Nat → Int32) (x1 : Int32) (x2 : Int64) {o_r : Int32} (hm : f_X5_walked x1 x2 v_now_size r_now_rows = some o_r) : Met l yX5_walked wsX5_walked rm_X5_walked (gPre dC dI k [.ref n_t, .int x1, .long x2] sz (wd_4273f5 k n_t n_text n_now n_past n_slots n_sightings n_survey n_trial n_now_rows v_filledSlots v_seedNow v_now_size v_now_stations r_now_rows)) (gQI dC dI (va_A (wd_4273f5 k n_t n_text n_now n_past n_slots n_sightings n_survey n_trial n_now_rows v_filledSlots v_seedNow v_now_size v_now_stations r_now_rows) sz) o_r (wd_4273f5 k n_t n_text n_now n_past n_slots n_sightings n_survey n_trial n_now_rows v_filledSlots v_seedNow v_now_size v_now_stations r_now_rows)) 0 0 (va_A (wd_4273f5 k n_t n_text n_now n_past n_slots n_sightings n_survey n_trial n_now_rows v_filledSlots v_seedNow v_now_size v_now_stations r_now_rows) sz) := by
  refine g_entry (cc := cX5_walked) (maxL := 7) (ret := (some .int)) (lv := [(0, .ref n_t), (1, .int x1), (2, .long x2)]) (by decide +kernel) rfl (Nat.le_of_ble_eq_true rfl) rfl (fun p e s m below meth c ls hx hb hr hml hts hown hlk hnm hsz hG hA hP hD hS hl => ?_)
  exact k_X5_walked hx hb hml hts hown hG hA n_t n_text n_now n_past n_slots n_sightings n_survey n_trial n_now_rows v_filledSlots v_seedNow v_now_size v_now_stations r_now_rows x1 x2 o_r (fun pc H locs ls v hd ho hP hD hS => by cases ho; exact g_ireti hx hb hr hlk hP hD hS hd) s.heap [] ls hl hP hD hS hm
end
section
set_option maxHeartbeats 4000000 in
set_option maxRecDepth 100000 in
theorem k_X5_drawn {p : Program} {l : Launch} {e : Env} {s : State} {m : MethodId} {args : Array Value} {below : List Frame} {meth : Method} {c : Code} {A : Nat → Prop} {Q : State → Prop} {dC : Nat → ClassId} {dI : Nat → Nat → Nat} {k : Nat → ClassId} (hx : p.tables.exec = Jvm.exec) (hb : c.code = cX5_drawn) (hml : c.maxLocals = 5) (hts : ∀ w ∈ wsX5_drawn, w.before args s = true) (hown : s.vm.findClass RX5 = some m.cls) (hG : gK dC dI k A s) (hA : ∀ q : Nat, s.heap.size ≤ q → A q) (F : Nat) (n_t n_text n_now n_past n_slots n_sightings n_survey n_trial n_now_rows : Nat) (v_filledSlots : Int32) (v_seedNow : Int64) (v_now_size : Int32) (v_now_stations : Int32) (r_now_rows : Nat → Int32) (x1 : Int32) (o_r : Int32) (o_v_seedNow : (Int64)) (RET : ∀ (pc : Nat) (H : Heap) (locs : List Loc) (ls : Array Slot) (v : Int32) (q_v_seedNow : Int64), decode cX5_drawn pc = .ok (.ireturn, 1) → some (v, q_v_seedNow) = some (o_r, o_v_seedNow) → va_P (dC, dI) vwCl (wd_4273f5 k n_t n_text n_now n_past n_slots n_sightings n_survey n_trial n_now_rows v_filledSlots q_v_seedNow v_now_size v_now_stations r_now_rows) H → va_D A (wd_4273f5 k n_t n_text n_now n_past n_slots n_sightings n_survey n_trial n_now_rows v_filledSlots q_v_seedNow v_now_size v_now_stations r_now_rows) → va_S A s.heap H locs → W p l e rm_X5_drawn s m args below meth c H locs 0 0 Q (F0 m pc ls [.int v])) (H : Heap) (locs : List Loc) (ls : Array Slot) (hl : lv_has ls 5 [(0, .ref n_t), (1, .int x1)]) (hP : va_P (dC, dI) vwCl (wd_4273f5 k n_t n_text n_now n_past n_slots n_sightings n_survey n_trial n_now_rows v_filledSlots v_seedNow v_now_size v_now_stations r_now_rows) H) (hD : va_D A (wd_4273f5 k n_t n_text n_now n_past n_slots n_sightings n_survey n_trial n_now_rows v_filledSlots v_seedNow v_now_size v_now_stations r_now_rows)) (hS : va_S A s.heap H locs) (hm : f_X5_drawn F x1 v_seedNow v_now_size r_now_rows = some (o_r, o_v_seedNow)) : W p l e rm_X5_drawn s m args below meth c H locs 0 0 Q (F0 m 0 ls []) := by
  have hinX5 : ∀ w ∈ u_ws RX5 TX5 9, w ∈ wsX5_drawn := by decide +kernel
  have k0 := hts (.fieldLink RX5 228 "CaveLegs" "seedNow" "J") (by decide +kernel)
  have k1 := hts (.constantLong RX5 231 (6364136223846793005)) (by decide +kernel)
  have k2 := hts (.constantLong RX5 233 (1442695040888963407)) (by decide +kernel)
  have L_21 : ∀ (n21 : Nat) (v_seedNow : Int64) (x1 : Int32) (x2 : Int32) (x3 : Int32) (x4 : Int32) (H : Heap) (locs : List Loc) (ls : Array Slot), lv_has ls 5 [(0, .ref n_t), (1, .int x1), (2, .int x2), (3, .int x3), (4, .int x4)] → va_P (dC, dI) vwCl (wd_4273f5 k n_t n_text n_now n_past n_slots n_sightings n_survey n_trial n_now_rows v_filledSlots v_seedNow v_now_size v_now_stations r_now_rows) H → va_D A (wd_4273f5 k n_t n_text n_now n_past n_slots n_sightings n_survey n_trial n_now_rows v_filledSlots v_seedNow v_now_size v_now_stations r_now_rows) → va_S A s.heap H locs → f_X5_drawn_L21 F v_now_size r_now_rows n21 v_seedNow x1 x2 x3 x4 = some (o_r, o_v_seedNow) → W p l e rm_X5_drawn s m args below meth c H locs 0 0 Q (F0 m 21 ls []) := by
    intro n21
    induction n21 with
    | zero =>
      intro v_seedNow x1 x2 x3 x4 H locs ls hl hP hD hS hm
      exact non_some hm
    | succ n21 ih21 =>
      have J_63 : ∀ (v_seedNow : Int64) (x1 : Int32) (x2 : Int32) (x3 : Int32) (x4 : Int32) (H : Heap) (locs : List Loc) (ls : Array Slot), lv_has ls 5 [(0, .ref n_t), (1, .int x1), (2, .int x2), (3, .int x3), (4, .int x4)] → va_P (dC, dI) vwCl (wd_4273f5 k n_t n_text n_now n_past n_slots n_sightings n_survey n_trial n_now_rows v_filledSlots v_seedNow v_now_size v_now_stations r_now_rows) H → va_D A (wd_4273f5 k n_t n_text n_now n_past n_slots n_sightings n_survey n_trial n_now_rows v_filledSlots v_seedNow v_now_size v_now_stations r_now_rows) → va_S A s.heap H locs → f_X5_drawn_J63 F v_now_size r_now_rows (f_X5_drawn_L21 F v_now_size r_now_rows n21) v_seedNow x1 x2 x3 x4 = some (o_r, o_v_seedNow) → W p l e rm_X5_drawn s m args below meth c H locs 0 0 Q (F0 m 63 ls []) := by
        intro v_seedNow x1 x2 x3 x4 H locs ls hl hP hD hS hm
        unfold f_X5_drawn_J63 at hm
        obtain ⟨t1, et1⟩ : ∃ y : Int32, y = x4 + (1 : Int32) := ⟨_, rfl⟩
        replace hm := (nmd_eq et1).trans hm
        refine lv_iinc (v := t1) (lv' := [(4, .int t1), (0, .ref n_t), (1, .int x1), (2, .int x2), (3, .int x3)]) hx hb dX5_drawn_63 hl (k := 4) rfl (by rw [et1]; rfl) (by decide) rfl (fun ls hl => ?_)
        refine lv_goto (tgt := 21) hx hb dX5_drawn_66 (by decide) ?_
        exact ih21 _ _ _ _ _ _ _ _ (lv_sub hl [1, 2, 3, 4, 0] rfl) hP hD hS hm
      intro v_seedNow x1 x2 x3 x4 H locs ls hl hP hD hS hm
      replace hm : f_X5_drawn_B21 F v_now_size r_now_rows (f_X5_drawn_L21 F v_now_size r_now_rows n21) v_seedNow x1 x2 x3 x4 = some (o_r, o_v_seedNow) := hm
      unfold f_X5_drawn_B21 at hm
      refine lv_iload hx hb dX5_drawn_21 (lv_at hl 4 rfl) ?_
      refine lv_iload_n hx hb dX5_drawn_23 rfl (lv_at hl 1 rfl) ?_
      refine lv_icmp_ge (tgt := 69) hx hb dX5_drawn_24 (by decide) (fun c2 => ?_) (fun c2 => ?_)
      · replace hm := ifp c2 hm
        refine lv_iload_n hx hb dX5_drawn_69 rfl (lv_at hl 3 rfl) ?_
        exact RET _ _ _ _ _ _ dX5_drawn_70 hm hP hD hS
      · replace hm := ifn c2 hm
        refine lv_aload_n hx hb dX5_drawn_27 rfl (lv_at hl 0 rfl) ?_
        refine lv_aload_n hx hb dX5_drawn_28 rfl (lv_at hl 0 rfl) ?_
        refine va_get (D := (dC, dI)) (ci := 5) (v := .long v_seedNow) (C := RX5) (T := TX5) (N := 9) hx hb hts hinX5 hown hG.1 hP 0 rfl rfl 8 (by decide) k0 (fun _ h9 => h9) rfl dX5_drawn_29 ?_
        refine lv_ldc2 (v := (6364136223846793005 : Int64)) hx hb hown k1 dX5_drawn_32 ?_
        refine lv_lmul hx hb dX5_drawn_35 ?_
        refine lv_ldc2 (v := (1442695040888963407 : Int64)) hx hb hown k2 dX5_drawn_36 ?_
        refine lv_ladd hx hb dX5_drawn_39 ?_
        refine lv_topl (fun t3 et3 => ?_)
        replace hm := (nmd_eq et3).trans hm
        refine va_put (D := (dC, dI)) (ci := 5) (v := .long t3) (ty := .long) (C := RX5) (T := TX5) (N := 9) hx hb hts hinX5 tyX5 tyX5_ok nmX5 hown hG.1 hP hD hS 0 rfl rfl 8 (by decide) k0 (fun _ h9 => h9) rfl (by decide +kernel) rfl rfl (Nat.le_of_ble_eq_true rfl) dX5_drawn_40 (fun H locs hP hD hS => ?_)
        replace hP : va_P (dC, dI) vwCl (wd_4273f5 k n_t n_text n_now n_past n_slots n_sightings n_survey n_trial n_now_rows v_filledSlots t3 v_now_size v_now_stations r_now_rows) H := hP
        replace hD : va_D A (wd_4273f5 k n_t n_text n_now n_past n_slots n_sightings n_survey n_trial n_now_rows v_filledSlots t3 v_now_size v_now_stations r_now_rows) := hD
        refine lv_aload_n hx hb dX5_drawn_43 rfl (lv_at hl 0 rfl) ?_
        refine lv_iload_n hx hb dX5_drawn_44 rfl (lv_at hl 2 rfl) ?_
        refine lv_aload_n hx hb dX5_drawn_45 rfl (lv_at hl 0 rfl) ?_
        refine va_get (D := (dC, dI)) (ci := 5) (v := .long t3) (C := RX5) (T := TX5) (N := 9) hx hb hts hinX5 hown hG.1 hP 0 rfl rfl 8 (by decide) k0 (fun _ h9 => h9) rfl dX5_drawn_46 ?_
        refine lv_bipush (v := (33 : Int32)) hx hb dX5_drawn_49 (by decide) ?_
        refine g_lushr hx hb dX5_drawn_51 ?_
        obtain ⟨r4, e5, hm⟩ := bnd1_some hm
        refine g_calli (w2 := (wd_4273f5 k n_t n_text n_now n_past n_slots n_sightings n_survey n_trial n_now_rows v_filledSlots t3 v_now_size v_now_stations r_now_rows)) (va_runV (As := [.int x2, .long (ushrL t3 (33 : Int32))]) (rest := []) ⟨hx, hb, hml, hown, hts⟩ (m_X5_walked l dC dI k H.size n_t n_text n_now n_past n_slots n_sightings n_survey n_trial n_now_rows v_filledSlots t3 v_now_size v_now_stations r_now_rows x2 (ushrL t3 (33 : Int32)) e5) (cwV 2 hts gX5_drawn_X5_walked rfl rfl rfl (by decide +kernel) ⟨Nat.le_of_ble_eq_true rfl, Nat.le_of_ble_eq_true rfl⟩) (g_preV hG hP hD hS hA [0, 1, 2] rfl (by decide) (ci := 5) (q0 := 0) rfl rfl) rfl rfl hl.1 rfl (lv_room (Nat.le_of_ble_eq_true rfl)) dX5_drawn_52 ⟨Nat.le_of_ble_eq_true rfl, Nat.le_of_ble_eq_true rfl⟩) hP hD hS hA [0, 1, 2] [] [0, 1, 2] rfl rfl (by decide) (by decide) rfl (by decide) (fun H locs hP hD hS => ?_)
        refine lv_istore_n (lv' := [(2, .int r4), (0, .ref n_t), (1, .int x1), (3, .int x3), (4, .int x4)]) hx hb dX5_drawn_55 rfl hl (by decide) rfl (fun ls hl => ?_)
        refine lv_iload_n hx hb dX5_drawn_56 rfl (lv_at hl 0 rfl) ?_
        refine lv_if_eq (tgt := 63) hx hb dX5_drawn_57 (by decide) (fun c6 => ?_) (fun c6 => ?_)
        · replace hm := ifp c6 hm
          exact J_63 _ _ _ _ _ _ _ _ (lv_sub hl [1, 2, 0, 3, 4] rfl) hP hD hS hm
        · replace hm := ifn c6 hm
          obtain ⟨t7, et7⟩ : ∃ y : Int32, y = x3 + (1 : Int32) := ⟨_, rfl⟩
          replace hm := (nmd_eq et7).trans hm
          refine lv_iinc (v := t7) (lv' := [(3, .int t7), (2, .int r4), (0, .ref n_t), (1, .int x1), (4, .int x4)]) hx hb dX5_drawn_60 hl (k := 3) rfl (by rw [et7]; rfl) (by decide) rfl (fun ls hl => ?_)
          exact J_63 _ _ _ _ _ _ _ _ (lv_sub hl [2, 3, 1, 0, 4] rfl) hP hD hS hm
  unfold f_X5_drawn at hm
  refine lv_iload_n hx hb dX5_drawn_0 rfl (lv_at hl 1 rfl) ?_
  refine lv_iconst (v := (1 : Int32)) hx hb dX5_drawn_1 (by decide) ?_
  refine lv_icmp_lt (tgt := 11) hx hb dX5_drawn_2 (by decide) (fun c8 => ?_) (fun c8 => ?_)
  · replace hm := ifp c8 hm
    refine lv_bipush (v := (-2 : Int32)) hx hb dX5_drawn_11 (by decide) ?_
    exact RET _ _ _ _ _ _ dX5_drawn_13 hm hP hD hS
  · replace hm := ifn c8 hm
    refine lv_iload_n hx hb dX5_drawn_5 rfl (lv_at hl 1 rfl) ?_
    refine lv_bipush (v := (40 : Int32)) hx hb dX5_drawn_6 (by decide) ?_
    refine lv_icmp_le (tgt := 14) hx hb dX5_drawn_8 (by decide) (fun c9 => ?_) (fun c9 => ?_)
    · replace hm := ifp c9 hm
      refine lv_iconst (v := (0 : Int32)) hx hb dX5_drawn_14 (by decide) ?_
      refine lv_istore_n (lv' := [(2, .int (0 : Int32)), (0, .ref n_t), (1, .int x1)]) hx hb dX5_drawn_15 rfl hl (by decide) rfl (fun ls hl => ?_)
      refine lv_iconst (v := (0 : Int32)) hx hb dX5_drawn_16 (by decide) ?_
      refine lv_istore_n (lv' := [(3, .int (0 : Int32)), (2, .int (0 : Int32)), (0, .ref n_t), (1, .int x1)]) hx hb dX5_drawn_17 rfl hl (by decide) rfl (fun ls hl => ?_)
      refine lv_iconst (v := (0 : Int32)) hx hb dX5_drawn_18 (by decide) ?_
      refine lv_istore (lv' := [(4, .int (0 : Int32)), (3, .int (0 : Int32)), (2, .int (0 : Int32)), (0, .ref n_t), (1, .int x1)]) hx hb dX5_drawn_19 hl (by decide) rfl (fun ls hl => ?_)
      exact L_21 F _ _ _ _ _ _ _ _ (lv_sub hl [3, 4, 2, 1, 0] rfl) hP hD hS hm
    · replace hm := ifn c9 hm
      refine lv_bipush (v := (-2 : Int32)) hx hb dX5_drawn_11 (by decide) ?_
      exact RET _ _ _ _ _ _ dX5_drawn_13 hm hP hD hS
set_option maxRecDepth 100000 in
theorem m_X5_drawn (l : Launch) (dC : Nat → ClassId) (dI : Nat → Nat → Nat) (k : Nat → ClassId) (F : Nat) (sz : Nat) (n_t n_text n_now n_past n_slots n_sightings n_survey n_trial n_now_rows : Nat) (v_filledSlots : Int32) (v_seedNow : Int64) (v_now_size : Int32) (v_now_stations : Int32) (r_now_rows : Nat → Int32) (x1 : Int32) {o_r : Int32} {o_v_seedNow : (Int64)} (hm : f_X5_drawn F x1 v_seedNow v_now_size r_now_rows = some (o_r, o_v_seedNow)) : Met l yX5_drawn wsX5_drawn rm_X5_drawn (gPre dC dI k [.ref n_t, .int x1] sz (wd_4273f5 k n_t n_text n_now n_past n_slots n_sightings n_survey n_trial n_now_rows v_filledSlots v_seedNow v_now_size v_now_stations r_now_rows)) (gQI dC dI (va_A (wd_4273f5 k n_t n_text n_now n_past n_slots n_sightings n_survey n_trial n_now_rows v_filledSlots v_seedNow v_now_size v_now_stations r_now_rows) sz) o_r (wd_4273f5 k n_t n_text n_now n_past n_slots n_sightings n_survey n_trial n_now_rows v_filledSlots o_v_seedNow v_now_size v_now_stations r_now_rows)) 0 0 (va_A (wd_4273f5 k n_t n_text n_now n_past n_slots n_sightings n_survey n_trial n_now_rows v_filledSlots v_seedNow v_now_size v_now_stations r_now_rows) sz) := by
  refine g_entry (cc := cX5_drawn) (maxL := 5) (ret := (some .int)) (lv := [(0, .ref n_t), (1, .int x1)]) (by decide +kernel) rfl (Nat.le_of_ble_eq_true rfl) rfl (fun p e s m below meth c ls hx hb hr hml hts hown hlk hnm hsz hG hA hP hD hS hl => ?_)
  exact k_X5_drawn hx hb hml hts hown hG hA F n_t n_text n_now n_past n_slots n_sightings n_survey n_trial n_now_rows v_filledSlots v_seedNow v_now_size v_now_stations r_now_rows x1 o_r o_v_seedNow (fun pc H locs ls v q_v_seedNow hd ho hP hD hS => by cases ho; exact g_ireti hx hb hr hlk hP hD hS hd) s.heap [] ls hl hP hD hS hm
end
section
set_option maxHeartbeats 4000000 in
set_option maxRecDepth 100000 in
theorem k_X5_count {p : Program} {l : Launch} {e : Env} {s : State} {m : MethodId} {args : Array Value} {below : List Frame} {meth : Method} {c : Code} {A : Nat → Prop} {Q : State → Prop} {dC : Nat → ClassId} {dI : Nat → Nat → Nat} {k : Nat → ClassId} (hx : p.tables.exec = Jvm.exec) (hb : c.code = cX5_count) (hml : c.maxLocals = 2) (hts : ∀ w ∈ wsX5_count, w.before args s = true) (hown : s.vm.findClass RX5 = some m.cls) (hG : gK dC dI k A s) (hA : ∀ q : Nat, s.heap.size ≤ q → A q) (F : Nat) (n_t n_text n_now n_past n_slots n_sightings n_survey n_trial n_text_letters n_now_rows n_past_ring n_sightings_rows : Nat) (v_filledSlots : Int32) (v_seedNow : Int64) (v_text_length : Int32) (v_now_size : Int32) (v_now_stations : Int32) (v_past_next : Int32) (v_past_depth : Int32) (v_sightings_size : Int32) (r_now_rows : Nat → Int32) (x1 : Int32) (o_r : Int32) (RET : ∀ (pc : Nat) (H : Heap) (locs : List Loc) (ls : Array Slot) (v : Int32), decode cX5_count pc = .ok (.ireturn, 1) → some v = some o_r → va_P (dC, dI) vwCl (wd_01d9e6 k n_t n_text n_now n_past n_slots n_sightings n_survey n_trial n_text_letters n_now_rows n_past_ring n_sightings_rows v_filledSlots v_seedNow v_text_length v_now_size v_now_stations v_past_next v_past_depth v_sightings_size r_now_rows) H → va_D A (wd_01d9e6 k n_t n_text n_now n_past n_slots n_sightings n_survey n_trial n_text_letters n_now_rows n_past_ring n_sightings_rows v_filledSlots v_seedNow v_text_length v_now_size v_now_stations v_past_next v_past_depth v_sightings_size r_now_rows) → va_S A s.heap H locs → W p l e rm_X5_count s m args below meth c H locs 0 0 Q (F0 m pc ls [.int v])) (H : Heap) (locs : List Loc) (ls : Array Slot) (hl : lv_has ls 2 [(0, .ref n_t), (1, .int x1)]) (hP : va_P (dC, dI) vwCl (wd_01d9e6 k n_t n_text n_now n_past n_slots n_sightings n_survey n_trial n_text_letters n_now_rows n_past_ring n_sightings_rows v_filledSlots v_seedNow v_text_length v_now_size v_now_stations v_past_next v_past_depth v_sightings_size r_now_rows) H) (hD : va_D A (wd_01d9e6 k n_t n_text n_now n_past n_slots n_sightings n_survey n_trial n_text_letters n_now_rows n_past_ring n_sightings_rows v_filledSlots v_seedNow v_text_length v_now_size v_now_stations v_past_next v_past_depth v_sightings_size r_now_rows)) (hS : va_S A s.heap H locs) (hm : f_X5_count F x1 v_text_length v_now_size v_now_stations r_now_rows v_past_depth v_sightings_size = some o_r) : W p l e rm_X5_count s m args below meth c H locs 0 0 Q (F0 m 0 ls []) := by
  have hinX0 : ∀ w ∈ u_ws RX0 TX0 3, w ∈ wsX5_count := by decide +kernel
  have hinX1 : ∀ w ∈ u_ws RX1 TX1 3, w ∈ wsX5_count := by decide +kernel
  have hinX2 : ∀ w ∈ u_ws RX2 TX2 2, w ∈ wsX5_count := by decide +kernel
  have hinX4 : ∀ w ∈ u_ws RX4 TX4 2, w ∈ wsX5_count := by decide +kernel
  have hinX5 : ∀ w ∈ u_ws RX5 TX5 9, w ∈ wsX5_count := by decide +kernel
  have k0 := hts (.fieldLink RX5 10 "CaveLegs" "text" "LCaveLegs$Text;") (by decide +kernel)
  have k1 := hts (.fieldLink RX5 55 "CaveLegs$Text" "length" "I") (by decide +kernel)
  have k2 := hts (.fieldLink RX5 19 "CaveLegs" "now" "LCaveLegs$Legs;") (by decide +kernel)
  have k3 := hts (.fieldLink RX5 239 "CaveLegs$Legs" "stations" "I") (by decide +kernel)
  have k4 := hts (.fieldLink RX5 73 "CaveLegs$Legs" "size" "I") (by decide +kernel)
  have k5 := hts (.fieldLink RX5 26 "CaveLegs" "past" "LCaveLegs$Past;") (by decide +kernel)
  have k6 := hts (.fieldLink RX5 116 "CaveLegs$Past" "depth" "I") (by decide +kernel)
  have k7 := hts (.fieldLink RX5 37 "CaveLegs" "sightings" "LCaveLegs$Sightings;") (by decide +kernel)
  have k8 := hts (.fieldLink RX5 209 "CaveLegs$Sightings" "size" "I") (by decide +kernel)
  unfold f_X5_count at hm
  refine lv_iload_n hx hb dX5_count_0 rfl (lv_at hl 1 rfl) ?_
  by_cases c1 : x1 = (0 : Int32)
  · replace hm := ifp c1 hm
    refine lv_tableIn (off := 39) (tgt := 40) hx hb dX5_count_1 (by rw [c1]; decide) (by rw [c1]; decide) (by rw [c1]; rfl) (by decide) ?_
    refine lv_aload_n hx hb dX5_count_40 rfl (lv_at hl 0 rfl) ?_
    refine va_get (D := (dC, dI)) (ci := 5) (v := .ref n_text) (C := RX5) (T := TX5) (N := 9) hx hb hts hinX5 hown hG.1 hP 0 rfl rfl 0 (by decide) k0 (fun _ h9 => h9) rfl dX5_count_41 ?_
    refine va_get (D := (dC, dI)) (ci := 4) (v := .int v_text_length) (C := RX4) (T := TX4) (N := 2) hx hb hts hinX4 hown hG.1 hP 1 rfl rfl 1 (by decide) k1 (fun _ h9 => h9) rfl dX5_count_44 ?_
    exact RET _ _ _ _ _ dX5_count_47 hm hP hD hS
  · replace hm := ifn c1 hm
    by_cases c2 : x1 = (1 : Int32)
    · replace hm := ifp c2 hm
      refine lv_tableIn (off := 47) (tgt := 48) hx hb dX5_count_1 (by rw [c2]; decide) (by rw [c2]; decide) (by rw [c2]; rfl) (by decide) ?_
      refine lv_aload_n hx hb dX5_count_48 rfl (lv_at hl 0 rfl) ?_
      refine va_get (D := (dC, dI)) (ci := 5) (v := .ref n_now) (C := RX5) (T := TX5) (N := 9) hx hb hts hinX5 hown hG.1 hP 0 rfl rfl 1 (by decide) k2 (fun _ h9 => h9) rfl dX5_count_49 ?_
      refine va_get (D := (dC, dI)) (ci := 0) (v := .int v_now_stations) (C := RX0) (T := TX0) (N := 3) hx hb hts hinX0 hown hG.1 hP 2 rfl rfl 2 (by decide) k3 (fun _ h9 => h9) rfl dX5_count_52 ?_
      exact RET _ _ _ _ _ dX5_count_55 hm hP hD hS
    · replace hm := ifn c2 hm
      by_cases c3 : x1 = (2 : Int32)
      · replace hm := ifp c3 hm
        refine lv_tableIn (off := 55) (tgt := 56) hx hb dX5_count_1 (by rw [c3]; decide) (by rw [c3]; decide) (by rw [c3]; rfl) (by decide) ?_
        refine lv_aload_n hx hb dX5_count_56 rfl (lv_at hl 0 rfl) ?_
        refine va_get (D := (dC, dI)) (ci := 5) (v := .ref n_now) (C := RX5) (T := TX5) (N := 9) hx hb hts hinX5 hown hG.1 hP 0 rfl rfl 1 (by decide) k2 (fun _ h9 => h9) rfl dX5_count_57 ?_
        refine va_get (D := (dC, dI)) (ci := 0) (v := .int v_now_size) (C := RX0) (T := TX0) (N := 3) hx hb hts hinX0 hown hG.1 hP 2 rfl rfl 1 (by decide) k4 (fun _ h9 => h9) rfl dX5_count_60 ?_
        exact RET _ _ _ _ _ dX5_count_63 hm hP hD hS
      · replace hm := ifn c3 hm
        by_cases c4 : x1 = (3 : Int32)
        · replace hm := ifp c4 hm
          refine lv_tableIn (off := 63) (tgt := 64) hx hb dX5_count_1 (by rw [c4]; decide) (by rw [c4]; decide) (by rw [c4]; rfl) (by decide) ?_
          refine lv_aload_n hx hb dX5_count_64 rfl (lv_at hl 0 rfl) ?_
          refine va_get (D := (dC, dI)) (ci := 5) (v := .ref n_now) (C := RX5) (T := TX5) (N := 9) hx hb hts hinX5 hown hG.1 hP 0 rfl rfl 1 (by decide) k2 (fun _ h9 => h9) rfl dX5_count_65 ?_
          obtain ⟨r5, e6, hm⟩ := bnd1_some hm
          refine g_calli (w2 := (wd_01d9e6 k n_t n_text n_now n_past n_slots n_sightings n_survey n_trial n_text_letters n_now_rows n_past_ring n_sightings_rows v_filledSlots v_seedNow v_text_length v_now_size v_now_stations v_past_next v_past_depth v_sightings_size r_now_rows)) (va_runV (As := []) (rest := []) ⟨hx, hb, hml, hown, hts⟩ (m_X0_all l dC dI k H.size n_now n_now_rows v_now_size v_now_stations  e6) (cwV 0 hts gX5_count_X0_all rfl rfl rfl (by decide +kernel) ⟨Nat.le_of_ble_eq_true rfl, Nat.le_of_ble_eq_true rfl⟩) (g_preV hG hP hD hS hA [2] rfl (by decide) (ci := 0) (q0 := 2) rfl rfl) rfl rfl hl.1 rfl (lv_room (Nat.le_of_ble_eq_true rfl)) dX5_count_68 ⟨Nat.le_of_ble_eq_true rfl, Nat.le_of_ble_eq_true rfl⟩) hP hD hS hA [2] [0, 1, 3, 4, 5] [0, 1, 5, 2, 3, 4] rfl rfl (by decide) (by decide) rfl (by decide) (fun H locs hP hD hS => ?_)
          refine lv_aload_n hx hb dX5_count_71 rfl (lv_at hl 0 rfl) ?_
          refine va_get (D := (dC, dI)) (ci := 5) (v := .ref n_now) (C := RX5) (T := TX5) (N := 9) hx hb hts hinX5 hown hG.1 hP 0 rfl rfl 1 (by decide) k2 (fun _ h9 => h9) rfl dX5_count_72 ?_
          refine lv_iconst (v := (1 : Int32)) hx hb dX5_count_75 (by decide) ?_
          obtain ⟨r7, e8, hm⟩ := bnd1_some hm
          refine g_calli (w2 := (wd_01d9e6 k n_t n_text n_now n_past n_slots n_sightings n_survey n_trial n_text_letters n_now_rows n_past_ring n_sightings_rows v_filledSlots v_seedNow v_text_length v_now_size v_now_stations v_past_next v_past_depth v_sightings_size r_now_rows)) (va_runV (As := [.int (1 : Int32)]) (rest := [.int r5]) ⟨hx, hb, hml, hown, hts⟩ (m_X0_open l dC dI k F H.size n_now n_now_rows v_now_size v_now_stations r_now_rows (1 : Int32) e8) (cwV 1 hts gX5_count_X0_open rfl rfl rfl (by decide +kernel) ⟨Nat.le_of_ble_eq_true rfl, Nat.le_of_ble_eq_true rfl⟩) (g_preV hG hP hD hS hA [2, 3] rfl (by decide) (ci := 0) (q0 := 2) rfl rfl) rfl rfl hl.1 rfl (lv_room (Nat.le_of_ble_eq_true rfl)) dX5_count_76 ⟨Nat.le_of_ble_eq_true rfl, Nat.le_of_ble_eq_true rfl⟩) hP hD hS hA [2, 3] [0, 1, 4, 5] [0, 1, 4, 5, 2, 3] rfl rfl (by decide) (by decide) rfl (by decide) (fun H locs hP hD hS => ?_)
          refine lv_iconst (v := (-1 : Int32)) hx hb dX5_count_79 (by decide) ?_
          refine lv_ixor hx hb dX5_count_80 ?_
          refine lv_iand hx hb dX5_count_81 ?_
          exact RET _ _ _ _ _ dX5_count_82 hm hP hD hS
        · replace hm := ifn c4 hm
          by_cases c9 : x1 = (4 : Int32)
          · replace hm := ifp c9 hm
            refine lv_tableIn (off := 82) (tgt := 83) hx hb dX5_count_1 (by rw [c9]; decide) (by rw [c9]; decide) (by rw [c9]; rfl) (by decide) ?_
            refine lv_aload_n hx hb dX5_count_83 rfl (lv_at hl 0 rfl) ?_
            refine va_get (D := (dC, dI)) (ci := 5) (v := .ref n_past) (C := RX5) (T := TX5) (N := 9) hx hb hts hinX5 hown hG.1 hP 0 rfl rfl 2 (by decide) k5 (fun _ h9 => h9) rfl dX5_count_84 ?_
            refine va_get (D := (dC, dI)) (ci := 1) (v := .int v_past_depth) (C := RX1) (T := TX1) (N := 3) hx hb hts hinX1 hown hG.1 hP 4 rfl rfl 2 (by decide) k6 (fun _ h9 => h9) rfl dX5_count_87 ?_
            exact RET _ _ _ _ _ dX5_count_90 hm hP hD hS
          · replace hm := ifn c9 hm
            by_cases c10 : x1 = (5 : Int32)
            · replace hm := ifp c10 hm
              refine lv_tableIn (off := 90) (tgt := 91) hx hb dX5_count_1 (by rw [c10]; decide) (by rw [c10]; decide) (by rw [c10]; rfl) (by decide) ?_
              refine lv_aload_n hx hb dX5_count_91 rfl (lv_at hl 0 rfl) ?_
              refine va_get (D := (dC, dI)) (ci := 5) (v := .ref n_sightings) (C := RX5) (T := TX5) (N := 9) hx hb hts hinX5 hown hG.1 hP 0 rfl rfl 4 (by decide) k7 (fun _ h9 => h9) rfl dX5_count_92 ?_
              refine va_get (D := (dC, dI)) (ci := 2) (v := .int v_sightings_size) (C := RX2) (T := TX2) (N := 2) hx hb hts hinX2 hown hG.1 hP 5 rfl rfl 1 (by decide) k8 (fun _ h9 => h9) rfl dX5_count_95 ?_
              exact RET _ _ _ _ _ dX5_count_98 hm hP hD hS
            · replace hm := ifn c10 hm
              refine lv_tableOut (tgt := 99) hx hb dX5_count_1 (by have qc1 := i32_ne c1 (z := 0) (by decide); have qc2 := i32_ne c2 (z := 1) (by decide); have qc3 := i32_ne c3 (z := 2) (by decide); have qc4 := i32_ne c4 (z := 3) (by decide); have qc9 := i32_ne c9 (z := 4) (by decide); have qc10 := i32_ne c10 (z := 5) (by decide); omega) (by decide) ?_
              refine lv_bipush (v := (-2 : Int32)) hx hb dX5_count_99 (by decide) ?_
              exact RET _ _ _ _ _ dX5_count_101 hm hP hD hS
set_option maxRecDepth 100000 in
theorem m_X5_count (l : Launch) (dC : Nat → ClassId) (dI : Nat → Nat → Nat) (k : Nat → ClassId) (F : Nat) (sz : Nat) (n_t n_text n_now n_past n_slots n_sightings n_survey n_trial n_text_letters n_now_rows n_past_ring n_sightings_rows : Nat) (v_filledSlots : Int32) (v_seedNow : Int64) (v_text_length : Int32) (v_now_size : Int32) (v_now_stations : Int32) (v_past_next : Int32) (v_past_depth : Int32) (v_sightings_size : Int32) (r_now_rows : Nat → Int32) (x1 : Int32) {o_r : Int32} (hm : f_X5_count F x1 v_text_length v_now_size v_now_stations r_now_rows v_past_depth v_sightings_size = some o_r) : Met l yX5_count wsX5_count rm_X5_count (gPre dC dI k [.ref n_t, .int x1] sz (wd_01d9e6 k n_t n_text n_now n_past n_slots n_sightings n_survey n_trial n_text_letters n_now_rows n_past_ring n_sightings_rows v_filledSlots v_seedNow v_text_length v_now_size v_now_stations v_past_next v_past_depth v_sightings_size r_now_rows)) (gQI dC dI (va_A (wd_01d9e6 k n_t n_text n_now n_past n_slots n_sightings n_survey n_trial n_text_letters n_now_rows n_past_ring n_sightings_rows v_filledSlots v_seedNow v_text_length v_now_size v_now_stations v_past_next v_past_depth v_sightings_size r_now_rows) sz) o_r (wd_01d9e6 k n_t n_text n_now n_past n_slots n_sightings n_survey n_trial n_text_letters n_now_rows n_past_ring n_sightings_rows v_filledSlots v_seedNow v_text_length v_now_size v_now_stations v_past_next v_past_depth v_sightings_size r_now_rows)) 0 0 (va_A (wd_01d9e6 k n_t n_text n_now n_past n_slots n_sightings n_survey n_trial n_text_letters n_now_rows n_past_ring n_sightings_rows v_filledSlots v_seedNow v_text_length v_now_size v_now_stations v_past_next v_past_depth v_sightings_size r_now_rows) sz) := by
  refine g_entry (cc := cX5_count) (maxL := 2) (ret := (some .int)) (lv := [(0, .ref n_t), (1, .int x1)]) (by decide +kernel) rfl (Nat.le_of_ble_eq_true rfl) rfl (fun p e s m below meth c ls hx hb hr hml hts hown hlk hnm hsz hG hA hP hD hS hl => ?_)
  exact k_X5_count hx hb hml hts hown hG hA F n_t n_text n_now n_past n_slots n_sightings n_survey n_trial n_text_letters n_now_rows n_past_ring n_sightings_rows v_filledSlots v_seedNow v_text_length v_now_size v_now_stations v_past_next v_past_depth v_sightings_size r_now_rows x1 o_r (fun pc H locs ls v hd ho hP hD hS => by cases ho; exact g_ireti hx hb hr hlk hP hD hS hd) s.heap [] ls hl hP hD hS hm
end
