section
set_option maxHeartbeats 4000000 in
set_option maxRecDepth 100000 in
theorem k_X6_fits {p : Program} {l : Launch} {e : Env} {s : State} {m : MethodId} {args : Array Value} {below : List Frame} {meth : Method} {c : Code} {A : Nat → Prop} {Q : State → Prop} {dC : Nat → ClassId} {dI : Nat → Nat → Nat} {k : Nat → ClassId} (hx : p.tables.exec = Jvm.exec) (hb : c.code = cX6_fits) (hml : c.maxLocals = 2) (hts : ∀ w ∈ wsX6_fits, w.before args s = true) (hown : s.vm.findClass RX6 = some m.cls) (hG : gK dC dI k A s) (hA : ∀ q : Nat, s.heap.size ≤ q → A q)  (x0 : Int32) (x1 : Int32) (o_r : Int32) (RET : ∀ (pc : Nat) (H : Heap) (locs : List Loc) (ls : Array Slot) (v : Int32), decode cX6_fits pc = .ok (.ireturn, 1) → some v = some o_r → narrow .boolean (.int v) = .int v → va_P (dC, dI) vwCl [] H → va_D A [] → va_S A s.heap H locs → W p l e rm_X6_fits s m args below meth c H locs 0 0 Q (F0 m pc ls [.int v])) (H : Heap) (locs : List Loc) (ls : Array Slot) (hl : lv_has ls 2 [(0, .int x0), (1, .int x1)]) (hP : va_P (dC, dI) vwCl [] H) (hD : va_D A []) (hS : va_S A s.heap H locs) (hm : f_X6_fits x0 x1 = some o_r) : W p l e rm_X6_fits s m args below meth c H locs 0 0 Q (F0 m 0 ls []) := by
  have k0 := hts (.constantLong RX6 117 (9)) (by decide +kernel)
  have k1 := hts (.constantLong RX6 126 (4)) (by decide +kernel)
  have k2 := hts (.constantLong RX6 124 (11)) (by decide +kernel)
  have k3 := hts (.constantLong RX6 122 (99)) (by decide +kernel)
  unfold f_X6_fits at hm
  refine lv_iload_n hx hb dX6_fits_0 rfl (lv_at hl 0 rfl) ?_
  refine lv_if_ne (tgt := 16) hx hb dX6_fits_1 (by decide) (fun c1 => ?_) (fun c1 => ?_)
  · replace hm := ifn c1 hm
    refine lv_iload_n hx hb dX6_fits_16 rfl (lv_at hl 0 rfl) ?_
    refine lv_iconst (v := (1 : Int32)) hx hb dX6_fits_17 (by decide) ?_
    refine lv_icmp_ne (tgt := 33) hx hb dX6_fits_18 (by decide) (fun c2 => ?_) (fun c2 => ?_)
    · replace hm := ifn c2 hm
      refine lv_iload_n hx hb dX6_fits_33 rfl (lv_at hl 0 rfl) ?_
      refine lv_iconst (v := (2 : Int32)) hx hb dX6_fits_34 (by decide) ?_
      refine lv_icmp_ne (tgt := 50) hx hb dX6_fits_35 (by decide) (fun c3 => ?_) (fun c3 => ?_)
      · replace hm := ifn c3 hm
        refine lv_iload_n hx hb dX6_fits_50 rfl (lv_at hl 1 rfl) ?_
        refine g_i2l hx hb dX6_fits_51 ?_
        refine lv_lconst (v := (1 : Int64)) hx hb dX6_fits_52 (by decide) ?_
        refine lv_ldc2 (v := (9 : Int64)) hx hb hown k0 dX6_fits_53 ?_
        obtain ⟨r4, e5, hm⟩ := bnd1_some hm
        refine g_calli (w2 := []) (va_runS (As := [.long (Int32.toInt64 x1), .long (1 : Int64), .long (9 : Int64)]) (rest := []) ⟨hx, hb, hml, hown, hts⟩ (m_X6_in l dC dI k H.size  (Int32.toInt64 x1) (1 : Int64) (9 : Int64) e5) (va_cwS 3 hts gX6_fits_X6_in rfl rfl rfl (by decide +kernel) ⟨Nat.le_of_ble_eq_true rfl, Nat.le_of_ble_eq_true rfl⟩) (g_preS hG hP hD hS hA [] rfl (by decide)) rfl rfl hl.1 rfl (lv_room (Nat.le_of_ble_eq_true rfl)) dX6_fits_56 ⟨Nat.le_of_ble_eq_true rfl, Nat.le_of_ble_eq_true rfl⟩) hP hD hS hA [] [] [] rfl rfl (by decide) (by decide) rfl (by decide) (fun H locs hP hD hS => ?_)
        obtain ⟨hz6, hm⟩ := chkZ_some hm
        exact RET _ _ _ _ _ dX6_fits_59 hm hz6 hP hD hS
      · replace hm := ifp c3 hm
        refine lv_iload_n hx hb dX6_fits_38 rfl (lv_at hl 1 rfl) ?_
        refine g_i2l hx hb dX6_fits_39 ?_
        refine lv_lconst (v := (0 : Int64)) hx hb dX6_fits_40 (by decide) ?_
        refine lv_ldc2 (v := (4 : Int64)) hx hb hown k1 dX6_fits_41 ?_
        obtain ⟨r7, e8, hm⟩ := bnd1_some hm
        refine g_calli (w2 := []) (va_runS (As := [.long (Int32.toInt64 x1), .long (0 : Int64), .long (4 : Int64)]) (rest := []) ⟨hx, hb, hml, hown, hts⟩ (m_X6_in l dC dI k H.size  (Int32.toInt64 x1) (0 : Int64) (4 : Int64) e8) (va_cwS 3 hts gX6_fits_X6_in rfl rfl rfl (by decide +kernel) ⟨Nat.le_of_ble_eq_true rfl, Nat.le_of_ble_eq_true rfl⟩) (g_preS hG hP hD hS hA [] rfl (by decide)) rfl rfl hl.1 rfl (lv_room (Nat.le_of_ble_eq_true rfl)) dX6_fits_44 ⟨Nat.le_of_ble_eq_true rfl, Nat.le_of_ble_eq_true rfl⟩) hP hD hS hA [] [] [] rfl rfl (by decide) (by decide) rfl (by decide) (fun H locs hP hD hS => ?_)
        refine lv_goto (tgt := 59) hx hb dX6_fits_47 (by decide) ?_
        obtain ⟨hz9, hm⟩ := chkZ_some hm
        exact RET _ _ _ _ _ dX6_fits_59 hm hz9 hP hD hS
    · replace hm := ifp c2 hm
      refine lv_iload_n hx hb dX6_fits_21 rfl (lv_at hl 1 rfl) ?_
      refine g_i2l hx hb dX6_fits_22 ?_
      refine lv_lconst (v := (0 : Int64)) hx hb dX6_fits_23 (by decide) ?_
      refine lv_ldc2 (v := (11 : Int64)) hx hb hown k2 dX6_fits_24 ?_
      obtain ⟨r10, e11, hm⟩ := bnd1_some hm
      refine g_calli (w2 := []) (va_runS (As := [.long (Int32.toInt64 x1), .long (0 : Int64), .long (11 : Int64)]) (rest := []) ⟨hx, hb, hml, hown, hts⟩ (m_X6_in l dC dI k H.size  (Int32.toInt64 x1) (0 : Int64) (11 : Int64) e11) (va_cwS 3 hts gX6_fits_X6_in rfl rfl rfl (by decide +kernel) ⟨Nat.le_of_ble_eq_true rfl, Nat.le_of_ble_eq_true rfl⟩) (g_preS hG hP hD hS hA [] rfl (by decide)) rfl rfl hl.1 rfl (lv_room (Nat.le_of_ble_eq_true rfl)) dX6_fits_27 ⟨Nat.le_of_ble_eq_true rfl, Nat.le_of_ble_eq_true rfl⟩) hP hD hS hA [] [] [] rfl rfl (by decide) (by decide) rfl (by decide) (fun H locs hP hD hS => ?_)
      refine lv_goto (tgt := 59) hx hb dX6_fits_30 (by decide) ?_
      obtain ⟨hz12, hm⟩ := chkZ_some hm
      exact RET _ _ _ _ _ dX6_fits_59 hm hz12 hP hD hS
  · replace hm := ifp c1 hm
    refine lv_iload_n hx hb dX6_fits_4 rfl (lv_at hl 1 rfl) ?_
    refine g_i2l hx hb dX6_fits_5 ?_
    refine lv_lconst (v := (1 : Int64)) hx hb dX6_fits_6 (by decide) ?_
    refine lv_ldc2 (v := (99 : Int64)) hx hb hown k3 dX6_fits_7 ?_
    obtain ⟨r13, e14, hm⟩ := bnd1_some hm
    refine g_calli (w2 := []) (va_runS (As := [.long (Int32.toInt64 x1), .long (1 : Int64), .long (99 : Int64)]) (rest := []) ⟨hx, hb, hml, hown, hts⟩ (m_X6_in l dC dI k H.size  (Int32.toInt64 x1) (1 : Int64) (99 : Int64) e14) (va_cwS 3 hts gX6_fits_X6_in rfl rfl rfl (by decide +kernel) ⟨Nat.le_of_ble_eq_true rfl, Nat.le_of_ble_eq_true rfl⟩) (g_preS hG hP hD hS hA [] rfl (by decide)) rfl rfl hl.1 rfl (lv_room (Nat.le_of_ble_eq_true rfl)) dX6_fits_10 ⟨Nat.le_of_ble_eq_true rfl, Nat.le_of_ble_eq_true rfl⟩) hP hD hS hA [] [] [] rfl rfl (by decide) (by decide) rfl (by decide) (fun H locs hP hD hS => ?_)
    refine lv_goto (tgt := 59) hx hb dX6_fits_13 (by decide) ?_
    obtain ⟨hz15, hm⟩ := chkZ_some hm
    exact RET _ _ _ _ _ dX6_fits_59 hm hz15 hP hD hS
set_option maxRecDepth 100000 in
theorem m_X6_fits (l : Launch) (dC : Nat → ClassId) (dI : Nat → Nat → Nat) (k : Nat → ClassId) (sz : Nat)  (x0 : Int32) (x1 : Int32) {o_r : Int32} (hm : f_X6_fits x0 x1 = some o_r) : Met l yX6_fits wsX6_fits rm_X6_fits (gPre dC dI k [.int x0, .int x1] sz []) (gQI dC dI (va_A [] sz) o_r []) 0 0 (va_A [] sz) := by
  refine g_entry (cc := cX6_fits) (maxL := 2) (ret := (some .boolean)) (lv := [(0, .int x0), (1, .int x1)]) (by decide +kernel) rfl (Nat.le_of_ble_eq_true rfl) rfl (fun p e s m below meth c ls hx hb hr hml hts hown hlk hnm hsz hG hA hP hD hS hl => ?_)
  exact k_X6_fits hx hb hml hts hown hG hA x0 x1 o_r (fun pc H locs ls v hd ho hz hP hD hS => by cases ho; exact g_iretz hx hb hr hlk hP hD hS hz hd) s.heap [] ls hl hP hD hS hm
end
section
set_option maxHeartbeats 4000000 in
set_option maxRecDepth 100000 in
theorem k_X6_measure {p : Program} {l : Launch} {e : Env} {s : State} {m : MethodId} {args : Array Value} {below : List Frame} {meth : Method} {c : Code} {A : Nat → Prop} {Q : State → Prop} {dC : Nat → ClassId} {dI : Nat → Nat → Nat} {k : Nat → ClassId} (hx : p.tables.exec = Jvm.exec) (hb : c.code = cX6_measure) (hml : c.maxLocals = 8) (hts : ∀ w ∈ wsX6_measure, w.before args s = true) (hown : s.vm.findClass RX6 = some m.cls) (hG : gK dC dI k A s) (hA : ∀ q : Nat, s.heap.size ≤ q → A q) (F : Nat) (n_t n_text n_readPage n_page n_trial n_book n_kept n_isKept n_seenStation n_seenOther n_seenWide n_seenWas n_sines n_at n_column n_gram n_right n_work : Nat) (v_thrown : Int32) (v_textSize : Int32) (v_place : Int32) (v_stations : Int32) (v_readStations : Int32) (v_doings : Int32) (v_seen : Int32) (v_seed : Int64) (v_wide : Int32) (v_up : Int64) (v_low : Int64) (r_page : Nat → Int32) (r_book : Nat → Int32) (x1 : Int32) (x2 : Int32) (x3 : Int32) (x4 : Int32) (x5 : Int32) (x6 : Int32) (o_r : Int32) (o_v_thrown : (Int32)) (o_v_doings : (Int32)) (o_r_page : (Nat → Int32)) (o_r_book : (Nat → Int32)) (RET : ∀ (pc : Nat) (H : Heap) (locs : List Loc) (ls : Array Slot) (v : Int32) (q_v_thrown : Int32) (q_v_doings : Int32) (q_r_page : Nat → Int32) (q_r_book : Nat → Int32), decode cX6_measure pc = .ok (.ireturn, 1) → some (v, q_v_thrown, q_v_doings, q_r_page, q_r_book) = some (o_r, o_v_thrown, o_v_doings, o_r_page, o_r_book) → va_P (dC, dI) vwCl (wd_e9dc6f k n_t n_text n_readPage n_page n_trial n_book n_kept n_isKept n_seenStation n_seenOther n_seenWide n_seenWas n_sines n_at n_column n_gram n_right n_work q_v_thrown v_textSize v_place v_stations v_readStations q_v_doings v_seen v_seed v_wide v_up v_low q_r_page q_r_book) H → va_D A (wd_e9dc6f k n_t n_text n_readPage n_page n_trial n_book n_kept n_isKept n_seenStation n_seenOther n_seenWide n_seenWas n_sines n_at n_column n_gram n_right n_work q_v_thrown v_textSize v_place v_stations v_readStations q_v_doings v_seen v_seed v_wide v_up v_low q_r_page q_r_book) → va_S A s.heap H locs → W p l e rm_X6_measure s m args below meth c H locs 0 0 Q (F0 m pc ls [.int v])) (H : Heap) (locs : List Loc) (ls : Array Slot) (hl : lv_has ls 8 [(0, .ref n_t), (1, .int x1), (2, .int x2), (3, .int x3), (4, .int x4), (5, .int x5), (6, .int x6)]) (hP : va_P (dC, dI) vwCl (wd_e9dc6f k n_t n_text n_readPage n_page n_trial n_book n_kept n_isKept n_seenStation n_seenOther n_seenWide n_seenWas n_sines n_at n_column n_gram n_right n_work v_thrown v_textSize v_place v_stations v_readStations v_doings v_seen v_seed v_wide v_up v_low r_page r_book) H) (hD : va_D A (wd_e9dc6f k n_t n_text n_readPage n_page n_trial n_book n_kept n_isKept n_seenStation n_seenOther n_seenWide n_seenWas n_sines n_at n_column n_gram n_right n_work v_thrown v_textSize v_place v_stations v_readStations v_doings v_seen v_seed v_wide v_up v_low r_page r_book)) (hS : va_S A s.heap H locs) (hm : f_X6_measure F x1 x2 x3 x4 x5 x6 v_thrown v_stations v_doings r_page r_book = some (o_r, o_v_thrown, o_v_doings, o_r_page, o_r_book)) : W p l e rm_X6_measure s m args below meth c H locs 0 0 Q (F0 m 0 ls []) := by
  have hinX6 : ∀ w ∈ u_ws RX6 TX6 28, w ∈ wsX6_measure := by decide +kernel
  have k0 := hts (.fieldLink RX6 67 "CaveLegsModel" "thrown" "I") (by decide +kernel)
  have k1 := hts (.fieldLink RX6 20 "CaveLegsModel" "page" "[I") (by decide +kernel)
  unfold f_X6_measure at hm
  refine lv_aload_n hx hb dX6_measure_0 rfl (lv_at hl 0 rfl) ?_
  refine lv_iconst (v := (0 : Int32)) hx hb dX6_measure_1 (by decide) ?_
  refine va_put (D := (dC, dI)) (ci := 6) (v := .int (0 : Int32)) (ty := .int) (C := RX6) (T := TX6) (N := 28) hx hb hts hinX6 tyX6 tyX6_ok nmX6 hown hG.1 hP hD hS 0 rfl rfl 0 (by decide) k0 (fun _ h9 => h9) rfl (by decide +kernel) rfl rfl (Nat.le_of_ble_eq_true rfl) dX6_measure_2 (fun H locs hP hD hS => ?_)
  replace hP : va_P (dC, dI) vwCl (wd_e9dc6f k n_t n_text n_readPage n_page n_trial n_book n_kept n_isKept n_seenStation n_seenOther n_seenWide n_seenWas n_sines n_at n_column n_gram n_right n_work (0 : Int32) v_textSize v_place v_stations v_readStations v_doings v_seen v_seed v_wide v_up v_low r_page r_book) H := hP
  replace hD : va_D A (wd_e9dc6f k n_t n_text n_readPage n_page n_trial n_book n_kept n_isKept n_seenStation n_seenOther n_seenWide n_seenWas n_sines n_at n_column n_gram n_right n_work (0 : Int32) v_textSize v_place v_stations v_readStations v_doings v_seen v_seed v_wide v_up v_low r_page r_book) := hD
  refine lv_aload_n hx hb dX6_measure_5 rfl (lv_at hl 0 rfl) ?_
  refine lv_iload_n hx hb dX6_measure_6 rfl (lv_at hl 1 rfl) ?_
  obtain ⟨r1, e2, hm⟩ := bnd1_some hm
  refine g_calli (w2 := (wd_e9dc6f k n_t n_text n_readPage n_page n_trial n_book n_kept n_isKept n_seenStation n_seenOther n_seenWide n_seenWas n_sines n_at n_column n_gram n_right n_work (0 : Int32) v_textSize v_place v_stations v_readStations v_doings v_seen v_seed v_wide v_up v_low r_page r_book)) (va_runV (As := [.int x1]) (rest := []) ⟨hx, hb, hml, hown, hts⟩ (m_X6_noStation l dC dI k H.size n_t n_text n_readPage n_page n_trial n_book n_kept n_isKept n_seenStation n_seenOther n_seenWide n_seenWas n_sines n_at n_column n_gram n_right n_work (0 : Int32) v_textSize v_place v_stations v_readStations v_doings v_seen v_seed v_wide v_up v_low x1 e2) (cwV 1 hts gX6_measure_X6_noStation rfl rfl rfl (by decide +kernel) ⟨Nat.le_of_ble_eq_true rfl, Nat.le_of_ble_eq_true rfl⟩) (g_preV hG hP hD hS hA [0] rfl (by decide) (ci := 6) (q0 := 0) rfl rfl) rfl rfl hl.1 rfl (lv_room (Nat.le_of_ble_eq_true rfl)) dX6_measure_7 ⟨Nat.le_of_ble_eq_true rfl, Nat.le_of_ble_eq_true rfl⟩) hP hD hS hA [0] [1, 2] [2, 0, 1] rfl rfl (by decide) (by decide) rfl (by decide) (fun H locs hP hD hS => ?_)
  refine lv_if_ne (tgt := 21) hx hb dX6_measure_10 (by decide) (fun c3 => ?_) (fun c3 => ?_)
  · replace hm := ifn c3 hm
    refine lv_iconst (v := (-1 : Int32)) hx hb dX6_measure_21 (by decide) ?_
    exact RET _ _ _ _ _ _ _ _ _ dX6_measure_22 hm hP hD hS
  · replace hm := ifp c3 hm
    refine lv_aload_n hx hb dX6_measure_13 rfl (lv_at hl 0 rfl) ?_
    refine lv_iload_n hx hb dX6_measure_14 rfl (lv_at hl 2 rfl) ?_
    obtain ⟨r4, e5, hm⟩ := bnd1_some hm
    refine g_calli (w2 := (wd_e9dc6f k n_t n_text n_readPage n_page n_trial n_book n_kept n_isKept n_seenStation n_seenOther n_seenWide n_seenWas n_sines n_at n_column n_gram n_right n_work (0 : Int32) v_textSize v_place v_stations v_readStations v_doings v_seen v_seed v_wide v_up v_low r_page r_book)) (va_runV (As := [.int x2]) (rest := []) ⟨hx, hb, hml, hown, hts⟩ (m_X6_noStation l dC dI k H.size n_t n_text n_readPage n_page n_trial n_book n_kept n_isKept n_seenStation n_seenOther n_seenWide n_seenWas n_sines n_at n_column n_gram n_right n_work (0 : Int32) v_textSize v_place v_stations v_readStations v_doings v_seen v_seed v_wide v_up v_low x2 e5) (cwV 1 hts gX6_measure_X6_noStation rfl rfl rfl (by decide +kernel) ⟨Nat.le_of_ble_eq_true rfl, Nat.le_of_ble_eq_true rfl⟩) (g_preV hG hP hD hS hA [0] rfl (by decide) (ci := 6) (q0 := 0) rfl rfl) rfl rfl hl.1 rfl (lv_room (Nat.le_of_ble_eq_true rfl)) dX6_measure_15 ⟨Nat.le_of_ble_eq_true rfl, Nat.le_of_ble_eq_true rfl⟩) hP hD hS hA [0] [1, 2] [2, 0, 1] rfl rfl (by decide) (by decide) rfl (by decide) (fun H locs hP hD hS => ?_)
    refine lv_if_eq (tgt := 23) hx hb dX6_measure_18 (by decide) (fun c6 => ?_) (fun c6 => ?_)
    · replace hm := ifp c6 hm
      refine lv_iload_n hx hb dX6_measure_23 rfl (lv_at hl 1 rfl) ?_
      refine lv_iload_n hx hb dX6_measure_24 rfl (lv_at hl 2 rfl) ?_
      refine lv_icmp_ne (tgt := 31) hx hb dX6_measure_25 (by decide) (fun c7 => ?_) (fun c7 => ?_)
      · replace hm := ifn c7 hm
        refine lv_iconst (v := (0 : Int32)) hx hb dX6_measure_31 (by decide) ?_
        refine lv_iload_n hx hb dX6_measure_32 rfl (lv_at hl 3 rfl) ?_
        obtain ⟨r8, e9, hm⟩ := bnd1_some hm
        refine g_calli (w2 := (wd_e9dc6f k n_t n_text n_readPage n_page n_trial n_book n_kept n_isKept n_seenStation n_seenOther n_seenWide n_seenWas n_sines n_at n_column n_gram n_right n_work (0 : Int32) v_textSize v_place v_stations v_readStations v_doings v_seen v_seed v_wide v_up v_low r_page r_book)) (va_runS (As := [.int (0 : Int32), .int x3]) (rest := []) ⟨hx, hb, hml, hown, hts⟩ (m_X6_fits l dC dI k H.size  (0 : Int32) x3 e9) (va_cwS 2 hts gX6_measure_X6_fits rfl rfl rfl (by decide +kernel) ⟨Nat.le_of_ble_eq_true rfl, Nat.le_of_ble_eq_true rfl⟩) (g_preS hG hP hD hS hA [] rfl (by decide)) rfl rfl hl.1 rfl (lv_room (Nat.le_of_ble_eq_true rfl)) dX6_measure_33 ⟨Nat.le_of_ble_eq_true rfl, Nat.le_of_ble_eq_true rfl⟩) hP hD hS hA [] [0, 1, 2] [0, 1, 2] rfl rfl (by decide) (by decide) rfl (by decide) (fun H locs hP hD hS => ?_)
        refine lv_if_eq (tgt := 66) hx hb dX6_measure_36 (by decide) (fun c10 => ?_) (fun c10 => ?_)
        · replace hm := ifp c10 hm
          refine lv_bipush (v := (-2 : Int32)) hx hb dX6_measure_66 (by decide) ?_
          exact RET _ _ _ _ _ _ _ _ _ dX6_measure_68 hm hP hD hS
        · replace hm := ifn c10 hm
          refine lv_iconst (v := (1 : Int32)) hx hb dX6_measure_39 (by decide) ?_
          refine lv_iload hx hb dX6_measure_40 (lv_at hl 4 rfl) ?_
          obtain ⟨r11, e12, hm⟩ := bnd1_some hm
          refine g_calli (w2 := (wd_e9dc6f k n_t n_text n_readPage n_page n_trial n_book n_kept n_isKept n_seenStation n_seenOther n_seenWide n_seenWas n_sines n_at n_column n_gram n_right n_work (0 : Int32) v_textSize v_place v_stations v_readStations v_doings v_seen v_seed v_wide v_up v_low r_page r_book)) (va_runS (As := [.int (1 : Int32), .int x4]) (rest := []) ⟨hx, hb, hml, hown, hts⟩ (m_X6_fits l dC dI k H.size  (1 : Int32) x4 e12) (va_cwS 2 hts gX6_measure_X6_fits rfl rfl rfl (by decide +kernel) ⟨Nat.le_of_ble_eq_true rfl, Nat.le_of_ble_eq_true rfl⟩) (g_preS hG hP hD hS hA [] rfl (by decide)) rfl rfl hl.1 rfl (lv_room (Nat.le_of_ble_eq_true rfl)) dX6_measure_42 ⟨Nat.le_of_ble_eq_true rfl, Nat.le_of_ble_eq_true rfl⟩) hP hD hS hA [] [0, 1, 2] [0, 1, 2] rfl rfl (by decide) (by decide) rfl (by decide) (fun H locs hP hD hS => ?_)
          refine lv_if_eq (tgt := 66) hx hb dX6_measure_45 (by decide) (fun c13 => ?_) (fun c13 => ?_)
          · replace hm := ifp c13 hm
            refine lv_bipush (v := (-2 : Int32)) hx hb dX6_measure_66 (by decide) ?_
            exact RET _ _ _ _ _ _ _ _ _ dX6_measure_68 hm hP hD hS
          · replace hm := ifn c13 hm
            refine lv_iconst (v := (2 : Int32)) hx hb dX6_measure_48 (by decide) ?_
            refine lv_iload hx hb dX6_measure_49 (lv_at hl 5 rfl) ?_
            obtain ⟨r14, e15, hm⟩ := bnd1_some hm
            refine g_calli (w2 := (wd_e9dc6f k n_t n_text n_readPage n_page n_trial n_book n_kept n_isKept n_seenStation n_seenOther n_seenWide n_seenWas n_sines n_at n_column n_gram n_right n_work (0 : Int32) v_textSize v_place v_stations v_readStations v_doings v_seen v_seed v_wide v_up v_low r_page r_book)) (va_runS (As := [.int (2 : Int32), .int x5]) (rest := []) ⟨hx, hb, hml, hown, hts⟩ (m_X6_fits l dC dI k H.size  (2 : Int32) x5 e15) (va_cwS 2 hts gX6_measure_X6_fits rfl rfl rfl (by decide +kernel) ⟨Nat.le_of_ble_eq_true rfl, Nat.le_of_ble_eq_true rfl⟩) (g_preS hG hP hD hS hA [] rfl (by decide)) rfl rfl hl.1 rfl (lv_room (Nat.le_of_ble_eq_true rfl)) dX6_measure_51 ⟨Nat.le_of_ble_eq_true rfl, Nat.le_of_ble_eq_true rfl⟩) hP hD hS hA [] [0, 1, 2] [0, 1, 2] rfl rfl (by decide) (by decide) rfl (by decide) (fun H locs hP hD hS => ?_)
            refine lv_if_eq (tgt := 66) hx hb dX6_measure_54 (by decide) (fun c16 => ?_) (fun c16 => ?_)
            · replace hm := ifp c16 hm
              refine lv_bipush (v := (-2 : Int32)) hx hb dX6_measure_66 (by decide) ?_
              exact RET _ _ _ _ _ _ _ _ _ dX6_measure_68 hm hP hD hS
            · replace hm := ifn c16 hm
              refine lv_iconst (v := (3 : Int32)) hx hb dX6_measure_57 (by decide) ?_
              refine lv_iload hx hb dX6_measure_58 (lv_at hl 6 rfl) ?_
              obtain ⟨r17, e18, hm⟩ := bnd1_some hm
              refine g_calli (w2 := (wd_e9dc6f k n_t n_text n_readPage n_page n_trial n_book n_kept n_isKept n_seenStation n_seenOther n_seenWide n_seenWas n_sines n_at n_column n_gram n_right n_work (0 : Int32) v_textSize v_place v_stations v_readStations v_doings v_seen v_seed v_wide v_up v_low r_page r_book)) (va_runS (As := [.int (3 : Int32), .int x6]) (rest := []) ⟨hx, hb, hml, hown, hts⟩ (m_X6_fits l dC dI k H.size  (3 : Int32) x6 e18) (va_cwS 2 hts gX6_measure_X6_fits rfl rfl rfl (by decide +kernel) ⟨Nat.le_of_ble_eq_true rfl, Nat.le_of_ble_eq_true rfl⟩) (g_preS hG hP hD hS hA [] rfl (by decide)) rfl rfl hl.1 rfl (lv_room (Nat.le_of_ble_eq_true rfl)) dX6_measure_60 ⟨Nat.le_of_ble_eq_true rfl, Nat.le_of_ble_eq_true rfl⟩) hP hD hS hA [] [0, 1, 2] [0, 1, 2] rfl rfl (by decide) (by decide) rfl (by decide) (fun H locs hP hD hS => ?_)
              refine lv_if_ne (tgt := 69) hx hb dX6_measure_63 (by decide) (fun c19 => ?_) (fun c19 => ?_)
              · replace hm := ifn c19 hm
                refine lv_aload_n hx hb dX6_measure_69 rfl (lv_at hl 0 rfl) ?_
                refine va_get (D := (dC, dI)) (ci := 6) (v := .ref n_page) (C := RX6) (T := TX6) (N := 28) hx hb hts hinX6 hown hG.1 hP 0 rfl rfl 7 (by decide) k1 (fun _ h9 => h9) rfl dX6_measure_70 ?_
                refine lv_iconst (v := (0 : Int32)) hx hb dX6_measure_73 (by decide) ?_
                obtain ⟨hi20, hm⟩ := chk_some hm
                refine va_iald hx hb hG.1 hP 1 0 rfl rfl hi20 dX6_measure_74 ?_
                refine lv_bipush (v := (8 : Int32)) hx hb dX6_measure_75 (by decide) ?_
                refine lv_icmp_ne (tgt := 83) hx hb dX6_measure_77 (by decide) (fun c21 => ?_) (fun c21 => ?_)
                · replace hm := ifn c21 hm
                  refine lv_aload_n hx hb dX6_measure_83 rfl (lv_at hl 0 rfl) ?_
                  obtain ⟨w22, w23, e24, hm⟩ := bnd2_some hm
                  refine g_callv (w2 := (wd_e9dc6f k n_t n_text n_readPage n_page n_trial n_book n_kept n_isKept n_seenStation n_seenOther n_seenWide n_seenWas n_sines n_at n_column n_gram n_right n_work (0 : Int32) v_textSize v_place v_stations v_readStations w22 v_seen v_seed v_wide v_up v_low r_page w23)) (va_runV (As := []) (rest := []) ⟨hx, hb, hml, hown, hts⟩ (m_X6_note l dC dI k F H.size n_t n_text n_readPage n_page n_trial n_book n_kept n_isKept n_seenStation n_seenOther n_seenWide n_seenWas n_sines n_at n_column n_gram n_right n_work (0 : Int32) v_textSize v_place v_stations v_readStations v_doings v_seen v_seed v_wide v_up v_low r_page r_book  e24) (cwV 0 hts gX6_measure_X6_note rfl rfl rfl (by decide +kernel) ⟨Nat.le_of_ble_eq_true rfl, Nat.le_of_ble_eq_true rfl⟩) (g_preV hG hP hD hS hA [0, 1, 2] rfl (by decide) (ci := 6) (q0 := 0) rfl rfl) rfl rfl hl.1 rfl (lv_room (Nat.le_of_ble_eq_true rfl)) dX6_measure_84 ⟨Nat.le_of_ble_eq_true rfl, Nat.le_of_ble_eq_true rfl⟩) hP hD hS hA [0, 1, 2] [] [0, 1, 2] rfl rfl (by decide) (by decide) rfl (by decide) (fun H locs hP hD hS => ?_)
                  refine lv_iconst (v := (2 : Int32)) hx hb dX6_measure_87 (by decide) ?_
                  refine lv_bipush (v := (6 : Int32)) hx hb dX6_measure_88 (by decide) ?_
                  refine lv_aload_n hx hb dX6_measure_90 rfl (lv_at hl 0 rfl) ?_
                  refine va_get (D := (dC, dI)) (ci := 6) (v := .ref n_page) (C := RX6) (T := TX6) (N := 28) hx hb hts hinX6 hown hG.1 hP 0 rfl rfl 7 (by decide) k1 (fun _ h9 => h9) rfl dX6_measure_91 ?_
                  refine lv_iconst (v := (0 : Int32)) hx hb dX6_measure_94 (by decide) ?_
                  obtain ⟨hi25, hm⟩ := chk_some hm
                  refine va_iald hx hb hG.1 hP 1 0 rfl rfl hi25 dX6_measure_95 ?_
                  refine lv_imul hx hb dX6_measure_96 ?_
                  refine lv_iadd hx hb dX6_measure_97 ?_
                  refine lv_topi (fun t26 et26 => ?_)
                  replace hm := (nmd_eq et26).trans hm
                  refine lv_istore (lv' := [(7, .int t26), (0, .ref n_t), (1, .int x1), (2, .int x2), (3, .int x3), (4, .int x4), (5, .int x5), (6, .int x6)]) hx hb dX6_measure_98 hl (by decide) rfl (fun ls hl => ?_)
                  refine lv_aload_n hx hb dX6_measure_100 rfl (lv_at hl 1 rfl) ?_
                  refine va_get (D := (dC, dI)) (ci := 6) (v := .ref n_page) (C := RX6) (T := TX6) (N := 28) hx hb hts hinX6 hown hG.1 hP 0 rfl rfl 7 (by decide) k1 (fun _ h9 => h9) rfl dX6_measure_101 ?_
                  refine lv_iload hx hb dX6_measure_104 (lv_at hl 0 rfl) ?_
                  refine lv_iconst (v := (0 : Int32)) hx hb dX6_measure_106 (by decide) ?_
                  refine lv_iadd hx hb dX6_measure_107 ?_
                  refine lv_iload_n hx hb dX6_measure_108 rfl (lv_at hl 4 rfl) ?_
                  obtain ⟨hi27, hm⟩ := chk_some hm
                  refine va_iast hx hb hG.1 hP hD hS 1 0 rfl rfl hi27 dX6_measure_109 (fun H locs hP hD hS => ?_)
                  replace hP : va_P (dC, dI) vwCl (wd_e9dc6f k n_t n_text n_readPage n_page n_trial n_book n_kept n_isKept n_seenStation n_seenOther n_seenWide n_seenWas n_sines n_at n_column n_gram n_right n_work (0 : Int32) v_textSize v_place v_stations v_readStations w22 v_seen v_seed v_wide v_up v_low (upd r_page (Int32.toNatClampNeg (t26 + (0 : Int32))) x3) w23) H := hP
                  replace hD : va_D A (wd_e9dc6f k n_t n_text n_readPage n_page n_trial n_book n_kept n_isKept n_seenStation n_seenOther n_seenWide n_seenWas n_sines n_at n_column n_gram n_right n_work (0 : Int32) v_textSize v_place v_stations v_readStations w22 v_seen v_seed v_wide v_up v_low (upd r_page (Int32.toNatClampNeg (t26 + (0 : Int32))) x3) w23) := hD
                  refine lv_aload_n hx hb dX6_measure_110 rfl (lv_at hl 1 rfl) ?_
                  refine va_get (D := (dC, dI)) (ci := 6) (v := .ref n_page) (C := RX6) (T := TX6) (N := 28) hx hb hts hinX6 hown hG.1 hP 0 rfl rfl 7 (by decide) k1 (fun _ h9 => h9) rfl dX6_measure_111 ?_
                  refine lv_iload hx hb dX6_measure_114 (lv_at hl 0 rfl) ?_
                  refine lv_iconst (v := (1 : Int32)) hx hb dX6_measure_116 (by decide) ?_
                  refine lv_iadd hx hb dX6_measure_117 ?_
                  refine lv_iload hx hb dX6_measure_118 (lv_at hl 5 rfl) ?_
                  obtain ⟨hi28, hm⟩ := chk_some hm
                  refine va_iast hx hb hG.1 hP hD hS 1 0 rfl rfl hi28 dX6_measure_120 (fun H locs hP hD hS => ?_)
                  replace hP : va_P (dC, dI) vwCl (wd_e9dc6f k n_t n_text n_readPage n_page n_trial n_book n_kept n_isKept n_seenStation n_seenOther n_seenWide n_seenWas n_sines n_at n_column n_gram n_right n_work (0 : Int32) v_textSize v_place v_stations v_readStations w22 v_seen v_seed v_wide v_up v_low (upd (upd r_page (Int32.toNatClampNeg (t26 + (0 : Int32))) x3) (Int32.toNatClampNeg (t26 + (1 : Int32))) x4) w23) H := hP
                  replace hD : va_D A (wd_e9dc6f k n_t n_text n_readPage n_page n_trial n_book n_kept n_isKept n_seenStation n_seenOther n_seenWide n_seenWas n_sines n_at n_column n_gram n_right n_work (0 : Int32) v_textSize v_place v_stations v_readStations w22 v_seen v_seed v_wide v_up v_low (upd (upd r_page (Int32.toNatClampNeg (t26 + (0 : Int32))) x3) (Int32.toNatClampNeg (t26 + (1 : Int32))) x4) w23) := hD
                  refine lv_aload_n hx hb dX6_measure_121 rfl (lv_at hl 1 rfl) ?_
                  refine va_get (D := (dC, dI)) (ci := 6) (v := .ref n_page) (C := RX6) (T := TX6) (N := 28) hx hb hts hinX6 hown hG.1 hP 0 rfl rfl 7 (by decide) k1 (fun _ h9 => h9) rfl dX6_measure_122 ?_
                  refine lv_iload hx hb dX6_measure_125 (lv_at hl 0 rfl) ?_
                  refine lv_iconst (v := (2 : Int32)) hx hb dX6_measure_127 (by decide) ?_
                  refine lv_iadd hx hb dX6_measure_128 ?_
                  refine lv_iload hx hb dX6_measure_129 (lv_at hl 6 rfl) ?_
                  obtain ⟨hi29, hm⟩ := chk_some hm
                  refine va_iast hx hb hG.1 hP hD hS 1 0 rfl rfl hi29 dX6_measure_131 (fun H locs hP hD hS => ?_)
                  replace hP : va_P (dC, dI) vwCl (wd_e9dc6f k n_t n_text n_readPage n_page n_trial n_book n_kept n_isKept n_seenStation n_seenOther n_seenWide n_seenWas n_sines n_at n_column n_gram n_right n_work (0 : Int32) v_textSize v_place v_stations v_readStations w22 v_seen v_seed v_wide v_up v_low (upd (upd (upd r_page (Int32.toNatClampNeg (t26 + (0 : Int32))) x3) (Int32.toNatClampNeg (t26 + (1 : Int32))) x4) (Int32.toNatClampNeg (t26 + (2 : Int32))) x5) w23) H := hP
                  replace hD : va_D A (wd_e9dc6f k n_t n_text n_readPage n_page n_trial n_book n_kept n_isKept n_seenStation n_seenOther n_seenWide n_seenWas n_sines n_at n_column n_gram n_right n_work (0 : Int32) v_textSize v_place v_stations v_readStations w22 v_seen v_seed v_wide v_up v_low (upd (upd (upd r_page (Int32.toNatClampNeg (t26 + (0 : Int32))) x3) (Int32.toNatClampNeg (t26 + (1 : Int32))) x4) (Int32.toNatClampNeg (t26 + (2 : Int32))) x5) w23) := hD
                  refine lv_aload_n hx hb dX6_measure_132 rfl (lv_at hl 1 rfl) ?_
                  refine va_get (D := (dC, dI)) (ci := 6) (v := .ref n_page) (C := RX6) (T := TX6) (N := 28) hx hb hts hinX6 hown hG.1 hP 0 rfl rfl 7 (by decide) k1 (fun _ h9 => h9) rfl dX6_measure_133 ?_
                  refine lv_iload hx hb dX6_measure_136 (lv_at hl 0 rfl) ?_
                  refine lv_iconst (v := (3 : Int32)) hx hb dX6_measure_138 (by decide) ?_
                  refine lv_iadd hx hb dX6_measure_139 ?_
                  refine lv_iload hx hb dX6_measure_140 (lv_at hl 7 rfl) ?_
                  obtain ⟨hi30, hm⟩ := chk_some hm
                  refine va_iast hx hb hG.1 hP hD hS 1 0 rfl rfl hi30 dX6_measure_142 (fun H locs hP hD hS => ?_)
                  replace hP : va_P (dC, dI) vwCl (wd_e9dc6f k n_t n_text n_readPage n_page n_trial n_book n_kept n_isKept n_seenStation n_seenOther n_seenWide n_seenWas n_sines n_at n_column n_gram n_right n_work (0 : Int32) v_textSize v_place v_stations v_readStations w22 v_seen v_seed v_wide v_up v_low (upd (upd (upd (upd r_page (Int32.toNatClampNeg (t26 + (0 : Int32))) x3) (Int32.toNatClampNeg (t26 + (1 : Int32))) x4) (Int32.toNatClampNeg (t26 + (2 : Int32))) x5) (Int32.toNatClampNeg (t26 + (3 : Int32))) x6) w23) H := hP
                  replace hD : va_D A (wd_e9dc6f k n_t n_text n_readPage n_page n_trial n_book n_kept n_isKept n_seenStation n_seenOther n_seenWide n_seenWas n_sines n_at n_column n_gram n_right n_work (0 : Int32) v_textSize v_place v_stations v_readStations w22 v_seen v_seed v_wide v_up v_low (upd (upd (upd (upd r_page (Int32.toNatClampNeg (t26 + (0 : Int32))) x3) (Int32.toNatClampNeg (t26 + (1 : Int32))) x4) (Int32.toNatClampNeg (t26 + (2 : Int32))) x5) (Int32.toNatClampNeg (t26 + (3 : Int32))) x6) w23) := hD
                  refine lv_aload_n hx hb dX6_measure_143 rfl (lv_at hl 1 rfl) ?_
                  refine va_get (D := (dC, dI)) (ci := 6) (v := .ref n_page) (C := RX6) (T := TX6) (N := 28) hx hb hts hinX6 hown hG.1 hP 0 rfl rfl 7 (by decide) k1 (fun _ h9 => h9) rfl dX6_measure_144 ?_
                  refine lv_iload hx hb dX6_measure_147 (lv_at hl 0 rfl) ?_
                  refine lv_iconst (v := (4 : Int32)) hx hb dX6_measure_149 (by decide) ?_
                  refine lv_iadd hx hb dX6_measure_150 ?_
                  refine lv_iload_n hx hb dX6_measure_151 rfl (lv_at hl 2 rfl) ?_
                  obtain ⟨hi31, hm⟩ := chk_some hm
                  refine va_iast hx hb hG.1 hP hD hS 1 0 rfl rfl hi31 dX6_measure_152 (fun H locs hP hD hS => ?_)
                  replace hP : va_P (dC, dI) vwCl (wd_e9dc6f k n_t n_text n_readPage n_page n_trial n_book n_kept n_isKept n_seenStation n_seenOther n_seenWide n_seenWas n_sines n_at n_column n_gram n_right n_work (0 : Int32) v_textSize v_place v_stations v_readStations w22 v_seen v_seed v_wide v_up v_low (upd (upd (upd (upd (upd r_page (Int32.toNatClampNeg (t26 + (0 : Int32))) x3) (Int32.toNatClampNeg (t26 + (1 : Int32))) x4) (Int32.toNatClampNeg (t26 + (2 : Int32))) x5) (Int32.toNatClampNeg (t26 + (3 : Int32))) x6) (Int32.toNatClampNeg (t26 + (4 : Int32))) x1) w23) H := hP
                  replace hD : va_D A (wd_e9dc6f k n_t n_text n_readPage n_page n_trial n_book n_kept n_isKept n_seenStation n_seenOther n_seenWide n_seenWas n_sines n_at n_column n_gram n_right n_work (0 : Int32) v_textSize v_place v_stations v_readStations w22 v_seen v_seed v_wide v_up v_low (upd (upd (upd (upd (upd r_page (Int32.toNatClampNeg (t26 + (0 : Int32))) x3) (Int32.toNatClampNeg (t26 + (1 : Int32))) x4) (Int32.toNatClampNeg (t26 + (2 : Int32))) x5) (Int32.toNatClampNeg (t26 + (3 : Int32))) x6) (Int32.toNatClampNeg (t26 + (4 : Int32))) x1) w23) := hD
                  refine lv_aload_n hx hb dX6_measure_153 rfl (lv_at hl 1 rfl) ?_
                  refine va_get (D := (dC, dI)) (ci := 6) (v := .ref n_page) (C := RX6) (T := TX6) (N := 28) hx hb hts hinX6 hown hG.1 hP 0 rfl rfl 7 (by decide) k1 (fun _ h9 => h9) rfl dX6_measure_154 ?_
                  refine lv_iload hx hb dX6_measure_157 (lv_at hl 0 rfl) ?_
                  refine lv_iconst (v := (5 : Int32)) hx hb dX6_measure_159 (by decide) ?_
                  refine lv_iadd hx hb dX6_measure_160 ?_
                  refine lv_iload_n hx hb dX6_measure_161 rfl (lv_at hl 3 rfl) ?_
                  obtain ⟨hi32, hm⟩ := chk_some hm
                  refine va_iast hx hb hG.1 hP hD hS 1 0 rfl rfl hi32 dX6_measure_162 (fun H locs hP hD hS => ?_)
                  replace hP : va_P (dC, dI) vwCl (wd_e9dc6f k n_t n_text n_readPage n_page n_trial n_book n_kept n_isKept n_seenStation n_seenOther n_seenWide n_seenWas n_sines n_at n_column n_gram n_right n_work (0 : Int32) v_textSize v_place v_stations v_readStations w22 v_seen v_seed v_wide v_up v_low (upd (upd (upd (upd (upd (upd r_page (Int32.toNatClampNeg (t26 + (0 : Int32))) x3) (Int32.toNatClampNeg (t26 + (1 : Int32))) x4) (Int32.toNatClampNeg (t26 + (2 : Int32))) x5) (Int32.toNatClampNeg (t26 + (3 : Int32))) x6) (Int32.toNatClampNeg (t26 + (4 : Int32))) x1) (Int32.toNatClampNeg (t26 + (5 : Int32))) x2) w23) H := hP
                  replace hD : va_D A (wd_e9dc6f k n_t n_text n_readPage n_page n_trial n_book n_kept n_isKept n_seenStation n_seenOther n_seenWide n_seenWas n_sines n_at n_column n_gram n_right n_work (0 : Int32) v_textSize v_place v_stations v_readStations w22 v_seen v_seed v_wide v_up v_low (upd (upd (upd (upd (upd (upd r_page (Int32.toNatClampNeg (t26 + (0 : Int32))) x3) (Int32.toNatClampNeg (t26 + (1 : Int32))) x4) (Int32.toNatClampNeg (t26 + (2 : Int32))) x5) (Int32.toNatClampNeg (t26 + (3 : Int32))) x6) (Int32.toNatClampNeg (t26 + (4 : Int32))) x1) (Int32.toNatClampNeg (t26 + (5 : Int32))) x2) w23) := hD
                  refine lv_aload_n hx hb dX6_measure_163 rfl (lv_at hl 1 rfl) ?_
                  refine va_get (D := (dC, dI)) (ci := 6) (v := .ref n_page) (C := RX6) (T := TX6) (N := 28) hx hb hts hinX6 hown hG.1 hP 0 rfl rfl 7 (by decide) k1 (fun _ h9 => h9) rfl dX6_measure_164 ?_
                  refine lv_iconst (v := (1 : Int32)) hx hb dX6_measure_167 (by decide) ?_
                  refine lv_dup2_11 hx hb dX6_measure_168 rfl rfl ?_
                  obtain ⟨hi33, hm⟩ := chk_some hm
                  refine va_iald hx hb hG.1 hP 1 0 rfl rfl hi33 dX6_measure_169 ?_
                  refine lv_iconst (v := (1 : Int32)) hx hb dX6_measure_170 (by decide) ?_
                  refine lv_aload_n hx hb dX6_measure_171 rfl (lv_at hl 1 rfl) ?_
                  refine va_get (D := (dC, dI)) (ci := 6) (v := .ref n_page) (C := RX6) (T := TX6) (N := 28) hx hb hts hinX6 hown hG.1 hP 0 rfl rfl 7 (by decide) k1 (fun _ h9 => h9) rfl dX6_measure_172 ?_
                  refine lv_iconst (v := (0 : Int32)) hx hb dX6_measure_175 (by decide) ?_
                  obtain ⟨hi34, hm⟩ := chk_some hm
                  refine va_iald hx hb hG.1 hP 1 0 rfl rfl hi34 dX6_measure_176 ?_
                  refine g_ishl hx hb dX6_measure_177 ?_
                  refine lv_iconst (v := (-1 : Int32)) hx hb dX6_measure_178 (by decide) ?_
                  refine lv_ixor hx hb dX6_measure_179 ?_
                  refine lv_iand hx hb dX6_measure_180 ?_
                  refine lv_topi (fun t35 et35 => ?_)
                  replace hm := (nmd_eq et35).trans hm
                  obtain ⟨hi36, hm⟩ := chk_some hm
                  refine va_iast hx hb hG.1 hP hD hS 1 0 rfl rfl hi36 dX6_measure_181 (fun H locs hP hD hS => ?_)
                  replace hP : va_P (dC, dI) vwCl (wd_e9dc6f k n_t n_text n_readPage n_page n_trial n_book n_kept n_isKept n_seenStation n_seenOther n_seenWide n_seenWas n_sines n_at n_column n_gram n_right n_work (0 : Int32) v_textSize v_place v_stations v_readStations w22 v_seen v_seed v_wide v_up v_low (upd (upd (upd (upd (upd (upd (upd r_page (Int32.toNatClampNeg (t26 + (0 : Int32))) x3) (Int32.toNatClampNeg (t26 + (1 : Int32))) x4) (Int32.toNatClampNeg (t26 + (2 : Int32))) x5) (Int32.toNatClampNeg (t26 + (3 : Int32))) x6) (Int32.toNatClampNeg (t26 + (4 : Int32))) x1) (Int32.toNatClampNeg (t26 + (5 : Int32))) x2) (Int32.toNatClampNeg (1 : Int32)) t35) w23) H := hP
                  replace hD : va_D A (wd_e9dc6f k n_t n_text n_readPage n_page n_trial n_book n_kept n_isKept n_seenStation n_seenOther n_seenWide n_seenWas n_sines n_at n_column n_gram n_right n_work (0 : Int32) v_textSize v_place v_stations v_readStations w22 v_seen v_seed v_wide v_up v_low (upd (upd (upd (upd (upd (upd (upd r_page (Int32.toNatClampNeg (t26 + (0 : Int32))) x3) (Int32.toNatClampNeg (t26 + (1 : Int32))) x4) (Int32.toNatClampNeg (t26 + (2 : Int32))) x5) (Int32.toNatClampNeg (t26 + (3 : Int32))) x6) (Int32.toNatClampNeg (t26 + (4 : Int32))) x1) (Int32.toNatClampNeg (t26 + (5 : Int32))) x2) (Int32.toNatClampNeg (1 : Int32)) t35) w23) := hD
                  refine lv_aload_n hx hb dX6_measure_182 rfl (lv_at hl 1 rfl) ?_
                  refine va_get (D := (dC, dI)) (ci := 6) (v := .ref n_page) (C := RX6) (T := TX6) (N := 28) hx hb hts hinX6 hown hG.1 hP 0 rfl rfl 7 (by decide) k1 (fun _ h9 => h9) rfl dX6_measure_183 ?_
                  refine lv_iconst (v := (0 : Int32)) hx hb dX6_measure_186 (by decide) ?_
                  refine lv_dup2_11 hx hb dX6_measure_187 rfl rfl ?_
                  obtain ⟨hi37, hm⟩ := chk_some hm
                  refine va_iald hx hb hG.1 hP 1 0 rfl rfl hi37 dX6_measure_188 ?_
                  refine lv_iconst (v := (1 : Int32)) hx hb dX6_measure_189 (by decide) ?_
                  refine lv_iadd hx hb dX6_measure_190 ?_
                  refine lv_topi (fun t38 et38 => ?_)
                  replace hm := (nmd_eq et38).trans hm
                  obtain ⟨hi39, hm⟩ := chk_some hm
                  refine va_iast hx hb hG.1 hP hD hS 1 0 rfl rfl hi39 dX6_measure_191 (fun H locs hP hD hS => ?_)
                  replace hP : va_P (dC, dI) vwCl (wd_e9dc6f k n_t n_text n_readPage n_page n_trial n_book n_kept n_isKept n_seenStation n_seenOther n_seenWide n_seenWas n_sines n_at n_column n_gram n_right n_work (0 : Int32) v_textSize v_place v_stations v_readStations w22 v_seen v_seed v_wide v_up v_low (upd (upd (upd (upd (upd (upd (upd (upd r_page (Int32.toNatClampNeg (t26 + (0 : Int32))) x3) (Int32.toNatClampNeg (t26 + (1 : Int32))) x4) (Int32.toNatClampNeg (t26 + (2 : Int32))) x5) (Int32.toNatClampNeg (t26 + (3 : Int32))) x6) (Int32.toNatClampNeg (t26 + (4 : Int32))) x1) (Int32.toNatClampNeg (t26 + (5 : Int32))) x2) (Int32.toNatClampNeg (1 : Int32)) t35) (Int32.toNatClampNeg (0 : Int32)) t38) w23) H := hP
                  replace hD : va_D A (wd_e9dc6f k n_t n_text n_readPage n_page n_trial n_book n_kept n_isKept n_seenStation n_seenOther n_seenWide n_seenWas n_sines n_at n_column n_gram n_right n_work (0 : Int32) v_textSize v_place v_stations v_readStations w22 v_seen v_seed v_wide v_up v_low (upd (upd (upd (upd (upd (upd (upd (upd r_page (Int32.toNatClampNeg (t26 + (0 : Int32))) x3) (Int32.toNatClampNeg (t26 + (1 : Int32))) x4) (Int32.toNatClampNeg (t26 + (2 : Int32))) x5) (Int32.toNatClampNeg (t26 + (3 : Int32))) x6) (Int32.toNatClampNeg (t26 + (4 : Int32))) x1) (Int32.toNatClampNeg (t26 + (5 : Int32))) x2) (Int32.toNatClampNeg (1 : Int32)) t35) (Int32.toNatClampNeg (0 : Int32)) t38) w23) := hD
                  refine lv_aload_n hx hb dX6_measure_192 rfl (lv_at hl 1 rfl) ?_
                  refine va_get (D := (dC, dI)) (ci := 6) (v := .ref n_page) (C := RX6) (T := TX6) (N := 28) hx hb hts hinX6 hown hG.1 hP 0 rfl rfl 7 (by decide) k1 (fun _ h9 => h9) rfl dX6_measure_193 ?_
                  refine lv_iconst (v := (0 : Int32)) hx hb dX6_measure_196 (by decide) ?_
                  obtain ⟨hi40, hm⟩ := chk_some hm
                  refine va_iald hx hb hG.1 hP 1 0 rfl rfl hi40 dX6_measure_197 ?_
                  exact RET _ _ _ _ _ _ _ _ _ dX6_measure_198 hm hP hD hS
                · replace hm := ifp c21 hm
                  refine lv_bipush (v := (-4 : Int32)) hx hb dX6_measure_80 (by decide) ?_
                  exact RET _ _ _ _ _ _ _ _ _ dX6_measure_82 hm hP hD hS
              · replace hm := ifp c19 hm
                refine lv_bipush (v := (-2 : Int32)) hx hb dX6_measure_66 (by decide) ?_
                exact RET _ _ _ _ _ _ _ _ _ dX6_measure_68 hm hP hD hS
      · replace hm := ifp c7 hm
        refine lv_bipush (v := (-3 : Int32)) hx hb dX6_measure_28 (by decide) ?_
        exact RET _ _ _ _ _ _ _ _ _ dX6_measure_30 hm hP hD hS
    · replace hm := ifn c6 hm
      refine lv_iconst (v := (-1 : Int32)) hx hb dX6_measure_21 (by decide) ?_
      exact RET _ _ _ _ _ _ _ _ _ dX6_measure_22 hm hP hD hS
set_option maxRecDepth 100000 in
theorem m_X6_measure (l : Launch) (dC : Nat → ClassId) (dI : Nat → Nat → Nat) (k : Nat → ClassId) (F : Nat) (sz : Nat) (n_t n_text n_readPage n_page n_trial n_book n_kept n_isKept n_seenStation n_seenOther n_seenWide n_seenWas n_sines n_at n_column n_gram n_right n_work : Nat) (v_thrown : Int32) (v_textSize : Int32) (v_place : Int32) (v_stations : Int32) (v_readStations : Int32) (v_doings : Int32) (v_seen : Int32) (v_seed : Int64) (v_wide : Int32) (v_up : Int64) (v_low : Int64) (r_page : Nat → Int32) (r_book : Nat → Int32) (x1 : Int32) (x2 : Int32) (x3 : Int32) (x4 : Int32) (x5 : Int32) (x6 : Int32) {o_r : Int32} {o_v_thrown : (Int32)} {o_v_doings : (Int32)} {o_r_page : (Nat → Int32)} {o_r_book : (Nat → Int32)} (hm : f_X6_measure F x1 x2 x3 x4 x5 x6 v_thrown v_stations v_doings r_page r_book = some (o_r, o_v_thrown, o_v_doings, o_r_page, o_r_book)) : Met l yX6_measure wsX6_measure rm_X6_measure (gPre dC dI k [.ref n_t, .int x1, .int x2, .int x3, .int x4, .int x5, .int x6] sz (wd_e9dc6f k n_t n_text n_readPage n_page n_trial n_book n_kept n_isKept n_seenStation n_seenOther n_seenWide n_seenWas n_sines n_at n_column n_gram n_right n_work v_thrown v_textSize v_place v_stations v_readStations v_doings v_seen v_seed v_wide v_up v_low r_page r_book)) (gQI dC dI (va_A (wd_e9dc6f k n_t n_text n_readPage n_page n_trial n_book n_kept n_isKept n_seenStation n_seenOther n_seenWide n_seenWas n_sines n_at n_column n_gram n_right n_work v_thrown v_textSize v_place v_stations v_readStations v_doings v_seen v_seed v_wide v_up v_low r_page r_book) sz) o_r (wd_e9dc6f k n_t n_text n_readPage n_page n_trial n_book n_kept n_isKept n_seenStation n_seenOther n_seenWide n_seenWas n_sines n_at n_column n_gram n_right n_work o_v_thrown v_textSize v_place v_stations v_readStations o_v_doings v_seen v_seed v_wide v_up v_low o_r_page o_r_book)) 0 0 (va_A (wd_e9dc6f k n_t n_text n_readPage n_page n_trial n_book n_kept n_isKept n_seenStation n_seenOther n_seenWide n_seenWas n_sines n_at n_column n_gram n_right n_work v_thrown v_textSize v_place v_stations v_readStations v_doings v_seen v_seed v_wide v_up v_low r_page r_book) sz) := by
  refine g_entry (cc := cX6_measure) (maxL := 8) (ret := (some .int)) (lv := [(0, .ref n_t), (1, .int x1), (2, .int x2), (3, .int x3), (4, .int x4), (5, .int x5), (6, .int x6)]) (by decide +kernel) rfl (Nat.le_of_ble_eq_true rfl) rfl (fun p e s m below meth c ls hx hb hr hml hts hown hlk hnm hsz hG hA hP hD hS hl => ?_)
  exact k_X6_measure hx hb hml hts hown hG hA F n_t n_text n_readPage n_page n_trial n_book n_kept n_isKept n_seenStation n_seenOther n_seenWide n_seenWas n_sines n_at n_column n_gram n_right n_work v_thrown v_textSize v_place v_stations v_readStations v_doings v_seen v_seed v_wide v_up v_low r_page r_book x1 x2 x3 x4 x5 x6 o_r o_v_thrown o_v_doings o_r_page o_r_book (fun pc H locs ls v q_v_thrown q_v_doings q_r_page q_r_book hd ho hP hD hS => by cases ho; exact g_ireti hx hb hr hlk hP hD hS hd) s.heap [] ls hl hP hD hS hm
end
section
set_option maxHeartbeats 4000000 in
set_option maxRecDepth 100000 in
theorem k_X6_takeOn {p : Program} {l : Launch} {e : Env} {s : State} {m : MethodId} {args : Array Value} {below : List Frame} {meth : Method} {c : Code} {A : Nat → Prop} {Q : State → Prop} {dC : Nat → ClassId} {dI : Nat → Nat → Nat} {k : Nat → ClassId} (hx : p.tables.exec = Jvm.exec) (hb : c.code = cX6_takeOn) (hml : c.maxLocals = 3) (hts : ∀ w ∈ wsX6_takeOn, w.before args s = true) (hown : s.vm.findClass RX6 = some m.cls) (hG : gK dC dI k A s) (hA : ∀ q : Nat, s.heap.size ≤ q → A q) (F : Nat) (n_p0 : Nat) (r_p0 : Nat → Int32) (x1 : Int32) (o_r_p0 : (Nat → Int32)) (RET : ∀ (pc : Nat) (H : Heap) (locs : List Loc) (ls : Array Slot) (q_r_p0 : Nat → Int32), decode cX6_takeOn pc = .ok (.return_, 1) → some q_r_p0 = some o_r_p0 → va_P (dC, dI) vwCl (wd_906db5 k n_p0 q_r_p0) H → va_D A (wd_906db5 k n_p0 q_r_p0) → va_S A s.heap H locs → W p l e rm_X6_takeOn s m args below meth c H locs 0 0 Q (F0 m pc ls [])) (H : Heap) (locs : List Loc) (ls : Array Slot) (hl : lv_has ls 3 [(0, .ref n_p0), (1, .int x1)]) (hP : va_P (dC, dI) vwCl (wd_906db5 k n_p0 r_p0) H) (hD : va_D A (wd_906db5 k n_p0 r_p0)) (hS : va_S A s.heap H locs) (hm : f_X6_takeOn F x1 r_p0 = some o_r_p0) : W p l e rm_X6_takeOn s m args below meth c H locs 0 0 Q (F0 m 0 ls []) := by
  have L_14 : ∀ (n14 : Nat) (r_p0 : Nat → Int32) (x1 : Int32) (x2 : Int32) (H : Heap) (locs : List Loc) (ls : Array Slot), lv_has ls 3 [(0, .ref n_p0), (1, .int x1), (2, .int x2)] → va_P (dC, dI) vwCl (wd_906db5 k n_p0 r_p0) H → va_D A (wd_906db5 k n_p0 r_p0) → va_S A s.heap H locs → f_X6_takeOn_L14 F n14 r_p0 x1 x2 = some o_r_p0 → W p l e rm_X6_takeOn s m args below meth c H locs 0 0 Q (F0 m 14 ls []) := by
    intro n14
    induction n14 with
    | zero =>
      intro r_p0 x1 x2 H locs ls hl hP hD hS hm
      exact non_some hm
    | succ n14 ih14 =>
      intro r_p0 x1 x2 H locs ls hl hP hD hS hm
      replace hm : f_X6_takeOn_B14 F (f_X6_takeOn_L14 F n14) r_p0 x1 x2 = some o_r_p0 := hm
      unfold f_X6_takeOn_B14 at hm
      refine lv_iload_n hx hb dX6_takeOn_14 rfl (lv_at hl 2 rfl) ?_
      refine lv_iconst (v := (2 : Int32)) hx hb dX6_takeOn_15 (by decide) ?_
      refine lv_bipush (v := (6 : Int32)) hx hb dX6_takeOn_16 (by decide) ?_
      refine lv_aload_n hx hb dX6_takeOn_18 rfl (lv_at hl 0 rfl) ?_
      refine lv_iconst (v := (0 : Int32)) hx hb dX6_takeOn_19 (by decide) ?_
      obtain ⟨hi1, hm⟩ := chk_some hm
      refine va_iald hx hb hG.1 hP 0 0 rfl rfl hi1 dX6_takeOn_20 ?_
      refine lv_imul hx hb dX6_takeOn_21 ?_
      refine lv_iadd hx hb dX6_takeOn_22 ?_
      refine lv_icmp_ge (tgt := 41) hx hb dX6_takeOn_23 (by decide) (fun c2 => ?_) (fun c2 => ?_)
      · replace hm := ifp c2 hm
        refine lv_aload_n hx hb dX6_takeOn_41 rfl (lv_at hl 0 rfl) ?_
        refine lv_iconst (v := (1 : Int32)) hx hb dX6_takeOn_42 (by decide) ?_
        obtain ⟨hi3, hm⟩ := chk_some hm
        refine va_iald hx hb hG.1 hP 0 0 rfl rfl hi3 dX6_takeOn_43 ?_
        refine lv_iconst (v := (1 : Int32)) hx hb dX6_takeOn_44 (by decide) ?_
        refine lv_iload_n hx hb dX6_takeOn_45 rfl (lv_at hl 1 rfl) ?_
        refine g_ishl hx hb dX6_takeOn_46 ?_
        refine lv_iconst (v := (1 : Int32)) hx hb dX6_takeOn_47 (by decide) ?_
        refine lv_isub hx hb dX6_takeOn_48 ?_
        refine lv_iand hx hb dX6_takeOn_49 ?_
        refine lv_topi (fun t4 et4 => ?_)
        replace hm := (nmd_eq et4).trans hm
        refine lv_istore_n (lv' := [(2, .int t4), (0, .ref n_p0), (1, .int x1)]) hx hb dX6_takeOn_50 rfl hl (by decide) rfl (fun ls hl => ?_)
        refine lv_aload_n hx hb dX6_takeOn_51 rfl (lv_at hl 1 rfl) ?_
        refine lv_iconst (v := (1 : Int32)) hx hb dX6_takeOn_52 (by decide) ?_
        refine lv_iload_n hx hb dX6_takeOn_53 rfl (lv_at hl 0 rfl) ?_
        refine lv_aload_n hx hb dX6_takeOn_54 rfl (lv_at hl 1 rfl) ?_
        refine lv_iconst (v := (1 : Int32)) hx hb dX6_takeOn_55 (by decide) ?_
        obtain ⟨hi5, hm⟩ := chk_some hm
        refine va_iald hx hb hG.1 hP 0 0 rfl rfl hi5 dX6_takeOn_56 ?_
        refine lv_iload_n hx hb dX6_takeOn_57 rfl (lv_at hl 2 rfl) ?_
        refine lv_iconst (v := (1 : Int32)) hx hb dX6_takeOn_58 (by decide) ?_
        refine lv_iadd hx hb dX6_takeOn_59 ?_
        refine g_ishr hx hb dX6_takeOn_60 ?_
        refine lv_iload_n hx hb dX6_takeOn_61 rfl (lv_at hl 2 rfl) ?_
        refine g_ishl hx hb dX6_takeOn_62 ?_
        refine lv_ior hx hb dX6_takeOn_63 ?_
        refine lv_topi (fun t6 et6 => ?_)
        replace hm := (nmd_eq et6).trans hm
        obtain ⟨hi7, hm⟩ := chk_some hm
        refine va_iast hx hb hG.1 hP hD hS 0 0 rfl rfl hi7 dX6_takeOn_64 (fun H locs hP hD hS => ?_)
        replace hP : va_P (dC, dI) vwCl (wd_906db5 k n_p0 (upd r_p0 (Int32.toNatClampNeg (1 : Int32)) t6)) H := hP
        replace hD : va_D A (wd_906db5 k n_p0 (upd r_p0 (Int32.toNatClampNeg (1 : Int32)) t6)) := hD
        exact RET _ _ _ _ _ dX6_takeOn_65 hm hP hD hS
      · replace hm := ifn c2 hm
        refine lv_aload_n hx hb dX6_takeOn_26 rfl (lv_at hl 0 rfl) ?_
        refine lv_iload_n hx hb dX6_takeOn_27 rfl (lv_at hl 2 rfl) ?_
        refine lv_aload_n hx hb dX6_takeOn_28 rfl (lv_at hl 0 rfl) ?_
        refine lv_iload_n hx hb dX6_takeOn_29 rfl (lv_at hl 2 rfl) ?_
        refine lv_bipush (v := (6 : Int32)) hx hb dX6_takeOn_30 (by decide) ?_
        refine lv_iadd hx hb dX6_takeOn_32 ?_
        obtain ⟨hi8, hm⟩ := chk_some hm
        refine va_iald hx hb hG.1 hP 0 0 rfl rfl hi8 dX6_takeOn_33 ?_
        refine lv_topi (fun t9 et9 => ?_)
        replace hm := (nmd_eq et9).trans hm
        obtain ⟨hi10, hm⟩ := chk_some hm
        refine va_iast hx hb hG.1 hP hD hS 0 0 rfl rfl hi10 dX6_takeOn_34 (fun H locs hP hD hS => ?_)
        replace hP : va_P (dC, dI) vwCl (wd_906db5 k n_p0 (upd r_p0 (Int32.toNatClampNeg x2) t9)) H := hP
        replace hD : va_D A (wd_906db5 k n_p0 (upd r_p0 (Int32.toNatClampNeg x2) t9)) := hD
        obtain ⟨t11, et11⟩ : ∃ y : Int32, y = x2 + (1 : Int32) := ⟨_, rfl⟩
        replace hm := (nmd_eq et11).trans hm
        refine lv_iinc (v := t11) (lv' := [(2, .int t11), (0, .ref n_p0), (1, .int x1)]) hx hb dX6_takeOn_35 hl (k := 2) rfl (by rw [et11]; rfl) (by decide) rfl (fun ls hl => ?_)
        refine lv_goto (tgt := 14) hx hb dX6_takeOn_38 (by decide) ?_
        exact ih14 _ _ _ _ _ _ (lv_sub hl [1, 2, 0] rfl) hP hD hS hm
  unfold f_X6_takeOn at hm
  refine lv_aload_n hx hb dX6_takeOn_0 rfl (lv_at hl 0 rfl) ?_
  refine lv_iconst (v := (0 : Int32)) hx hb dX6_takeOn_1 (by decide) ?_
  refine lv_dup2_11 hx hb dX6_takeOn_2 rfl rfl ?_
  obtain ⟨hi12, hm⟩ := chk_some hm
  refine va_iald hx hb hG.1 hP 0 0 rfl rfl hi12 dX6_takeOn_3 ?_
  refine lv_iconst (v := (1 : Int32)) hx hb dX6_takeOn_4 (by decide) ?_
  refine lv_isub hx hb dX6_takeOn_5 ?_
  refine lv_topi (fun t13 et13 => ?_)
  replace hm := (nmd_eq et13).trans hm
  obtain ⟨hi14, hm⟩ := chk_some hm
  refine va_iast hx hb hG.1 hP hD hS 0 0 rfl rfl hi14 dX6_takeOn_6 (fun H locs hP hD hS => ?_)
  replace hP : va_P (dC, dI) vwCl (wd_906db5 k n_p0 (upd r_p0 (Int32.toNatClampNeg (0 : Int32)) t13)) H := hP
  replace hD : va_D A (wd_906db5 k n_p0 (upd r_p0 (Int32.toNatClampNeg (0 : Int32)) t13)) := hD
  refine lv_iconst (v := (2 : Int32)) hx hb dX6_takeOn_7 (by decide) ?_
  refine lv_bipush (v := (6 : Int32)) hx hb dX6_takeOn_8 (by decide) ?_
  refine lv_iload_n hx hb dX6_takeOn_10 rfl (lv_at hl 1 rfl) ?_
  refine lv_imul hx hb dX6_takeOn_11 ?_
  refine lv_iadd hx hb dX6_takeOn_12 ?_
  refine lv_topi (fun t15 et15 => ?_)
  replace hm := (nmd_eq et15).trans hm
  refine lv_istore_n (lv' := [(2, .int t15), (0, .ref n_p0), (1, .int x1)]) hx hb dX6_takeOn_13 rfl hl (by decide) rfl (fun ls hl => ?_)
  exact L_14 F _ _ _ _ _ _ (lv_sub hl [1, 2, 0] rfl) hP hD hS hm
set_option maxRecDepth 100000 in
theorem m_X6_takeOn (l : Launch) (dC : Nat → ClassId) (dI : Nat → Nat → Nat) (k : Nat → ClassId) (F : Nat) (sz : Nat) (n_p0 : Nat) (r_p0 : Nat → Int32) (x1 : Int32) {o_r_p0 : (Nat → Int32)} (hm : f_X6_takeOn F x1 r_p0 = some o_r_p0) : Met l yX6_takeOn wsX6_takeOn rm_X6_takeOn (gPre dC dI k [.ref n_p0, .int x1] sz (wd_906db5 k n_p0 r_p0)) (gQV dC dI (va_A (wd_906db5 k n_p0 r_p0) sz) (wd_906db5 k n_p0 o_r_p0)) 0 0 (va_A (wd_906db5 k n_p0 r_p0) sz) := by
  refine g_entry (cc := cX6_takeOn) (maxL := 3) (ret := none) (lv := [(0, .ref n_p0), (1, .int x1)]) (by decide +kernel) rfl (Nat.le_of_ble_eq_true rfl) rfl (fun p e s m below meth c ls hx hb hr hml hts hown hlk hnm hsz hG hA hP hD hS hl => ?_)
  exact k_X6_takeOn hx hb hml hts hown hG hA F n_p0 r_p0 x1 o_r_p0 (fun pc H locs ls q_r_p0 hd ho hP hD hS => by cases ho; exact g_vret hx hb hr hlk hP hD hS hd) s.heap [] ls hl hP hD hS hm
end
section
set_option maxHeartbeats 4000000 in
set_option maxRecDepth 100000 in
theorem k_X6_take {p : Program} {l : Launch} {e : Env} {s : State} {m : MethodId} {args : Array Value} {below : List Frame} {meth : Method} {c : Code} {A : Nat → Prop} {Q : State → Prop} {dC : Nat → ClassId} {dI : Nat → Nat → Nat} {k : Nat → ClassId} (hx : p.tables.exec = Jvm.exec) (hb : c.code = cX6_take) (hml : c.maxLocals = 2) (hts : ∀ w ∈ wsX6_take, w.before args s = true) (hown : s.vm.findClass RX6 = some m.cls) (hG : gK dC dI k A s) (hA : ∀ q : Nat, s.heap.size ≤ q → A q) (F : Nat) (n_t n_text n_readPage n_page n_trial n_book n_kept n_isKept n_seenStation n_seenOther n_seenWide n_seenWas n_sines n_at n_column n_gram n_right n_work : Nat) (v_thrown : Int32) (v_textSize : Int32) (v_place : Int32) (v_stations : Int32) (v_readStations : Int32) (v_doings : Int32) (v_seen : Int32) (v_seed : Int64) (v_wide : Int32) (v_up : Int64) (v_low : Int64) (r_page : Nat → Int32) (r_book : Nat → Int32) (x1 : Int32) (o_r : Int32) (o_v_thrown : (Int32)) (o_v_doings : (Int32)) (o_r_page : (Nat → Int32)) (o_r_book : (Nat → Int32)) (RET : ∀ (pc : Nat) (H : Heap) (locs : List Loc) (ls : Array Slot) (v : Int32) (q_v_thrown : Int32) (q_v_doings : Int32) (q_r_page : Nat → Int32) (q_r_book : Nat → Int32), decode cX6_take pc = .ok (.ireturn, 1) → some (v, q_v_thrown, q_v_doings, q_r_page, q_r_book) = some (o_r, o_v_thrown, o_v_doings, o_r_page, o_r_book) → va_P (dC, dI) vwCl (wd_e9dc6f k n_t n_text n_readPage n_page n_trial n_book n_kept n_isKept n_seenStation n_seenOther n_seenWide n_seenWas n_sines n_at n_column n_gram n_right n_work q_v_thrown v_textSize v_place v_stations v_readStations q_v_doings v_seen v_seed v_wide v_up v_low q_r_page q_r_book) H → va_D A (wd_e9dc6f k n_t n_text n_readPage n_page n_trial n_book n_kept n_isKept n_seenStation n_seenOther n_seenWide n_seenWas n_sines n_at n_column n_gram n_right n_work q_v_thrown v_textSize v_place v_stations v_readStations q_v_doings v_seen v_seed v_wide v_up v_low q_r_page q_r_book) → va_S A s.heap H locs → W p l e rm_X6_take s m args below meth c H locs 0 0 Q (F0 m pc ls [.int v])) (H : Heap) (locs : List Loc) (ls : Array Slot) (hl : lv_has ls 2 [(0, .ref n_t), (1, .int x1)]) (hP : va_P (dC, dI) vwCl (wd_e9dc6f k n_t n_text n_readPage n_page n_trial n_book n_kept n_isKept n_seenStation n_seenOther n_seenWide n_seenWas n_sines n_at n_column n_gram n_right n_work v_thrown v_textSize v_place v_stations v_readStations v_doings v_seen v_seed v_wide v_up v_low r_page r_book) H) (hD : va_D A (wd_e9dc6f k n_t n_text n_readPage n_page n_trial n_book n_kept n_isKept n_seenStation n_seenOther n_seenWide n_seenWas n_sines n_at n_column n_gram n_right n_work v_thrown v_textSize v_place v_stations v_readStations v_doings v_seen v_seed v_wide v_up v_low r_page r_book)) (hS : va_S A s.heap H locs) (hm : f_X6_take F x1 v_thrown v_doings r_page r_book = some (o_r, o_v_thrown, o_v_doings, o_r_page, o_r_book)) : W p l e rm_X6_take s m args below meth c H locs 0 0 Q (F0 m 0 ls []) := by
  have hinX6 : ∀ w ∈ u_ws RX6 TX6 28, w ∈ wsX6_take := by decide +kernel
  have k0 := hts (.fieldLink RX6 67 "CaveLegsModel" "thrown" "I") (by decide +kernel)
  have k1 := hts (.fieldLink RX6 20 "CaveLegsModel" "page" "[I") (by decide +kernel)
  unfold f_X6_take at hm
  refine lv_aload_n hx hb dX6_take_0 rfl (lv_at hl 0 rfl) ?_
  refine lv_iconst (v := (0 : Int32)) hx hb dX6_take_1 (by decide) ?_
  refine va_put (D := (dC, dI)) (ci := 6) (v := .int (0 : Int32)) (ty := .int) (C := RX6) (T := TX6) (N := 28) hx hb hts hinX6 tyX6 tyX6_ok nmX6 hown hG.1 hP hD hS 0 rfl rfl 0 (by decide) k0 (fun _ h9 => h9) rfl (by decide +kernel) rfl rfl (Nat.le_of_ble_eq_true rfl) dX6_take_2 (fun H locs hP hD hS => ?_)
  replace hP : va_P (dC, dI) vwCl (wd_e9dc6f k n_t n_text n_readPage n_page n_trial n_book n_kept n_isKept n_seenStation n_seenOther n_seenWide n_seenWas n_sines n_at n_column n_gram n_right n_work (0 : Int32) v_textSize v_place v_stations v_readStations v_doings v_seen v_seed v_wide v_up v_low r_page r_book) H := hP
  replace hD : va_D A (wd_e9dc6f k n_t n_text n_readPage n_page n_trial n_book n_kept n_isKept n_seenStation n_seenOther n_seenWide n_seenWas n_sines n_at n_column n_gram n_right n_work (0 : Int32) v_textSize v_place v_stations v_readStations v_doings v_seen v_seed v_wide v_up v_low r_page r_book) := hD
  refine lv_aload_n hx hb dX6_take_5 rfl (lv_at hl 0 rfl) ?_
  refine lv_iload_n hx hb dX6_take_6 rfl (lv_at hl 1 rfl) ?_
  obtain ⟨r1, e2, hm⟩ := bnd1_some hm
  refine g_calli (w2 := (wd_e9dc6f k n_t n_text n_readPage n_page n_trial n_book n_kept n_isKept n_seenStation n_seenOther n_seenWide n_seenWas n_sines n_at n_column n_gram n_right n_work (0 : Int32) v_textSize v_place v_stations v_readStations v_doings v_seen v_seed v_wide v_up v_low r_page r_book)) (va_runV (As := [.int x1]) (rest := []) ⟨hx, hb, hml, hown, hts⟩ (m_X6_noLeg l dC dI k H.size n_t n_text n_readPage n_page n_trial n_book n_kept n_isKept n_seenStation n_seenOther n_seenWide n_seenWas n_sines n_at n_column n_gram n_right n_work (0 : Int32) v_textSize v_place v_stations v_readStations v_doings v_seen v_seed v_wide v_up v_low r_page x1 e2) (cwV 1 hts gX6_take_X6_noLeg rfl rfl rfl (by decide +kernel) ⟨Nat.le_of_ble_eq_true rfl, Nat.le_of_ble_eq_true rfl⟩) (g_preV hG hP hD hS hA [0, 1] rfl (by decide) (ci := 6) (q0 := 0) rfl rfl) rfl rfl hl.1 rfl (lv_room (Nat.le_of_ble_eq_true rfl)) dX6_take_7 ⟨Nat.le_of_ble_eq_true rfl, Nat.le_of_ble_eq_true rfl⟩) hP hD hS hA [0, 1] [2] [1, 2, 0] rfl rfl (by decide) (by decide) rfl (by decide) (fun H locs hP hD hS => ?_)
  refine lv_if_eq (tgt := 15) hx hb dX6_take_10 (by decide) (fun c3 => ?_) (fun c3 => ?_)
  · replace hm := ifp c3 hm
    refine lv_aload_n hx hb dX6_take_15 rfl (lv_at hl 0 rfl) ?_
    obtain ⟨w4, w5, e6, hm⟩ := bnd2_some hm
    refine g_callv (w2 := (wd_e9dc6f k n_t n_text n_readPage n_page n_trial n_book n_kept n_isKept n_seenStation n_seenOther n_seenWide n_seenWas n_sines n_at n_column n_gram n_right n_work (0 : Int32) v_textSize v_place v_stations v_readStations w4 v_seen v_seed v_wide v_up v_low r_page w5)) (va_runV (As := []) (rest := []) ⟨hx, hb, hml, hown, hts⟩ (m_X6_note l dC dI k F H.size n_t n_text n_readPage n_page n_trial n_book n_kept n_isKept n_seenStation n_seenOther n_seenWide n_seenWas n_sines n_at n_column n_gram n_right n_work (0 : Int32) v_textSize v_place v_stations v_readStations v_doings v_seen v_seed v_wide v_up v_low r_page r_book  e6) (cwV 0 hts gX6_take_X6_note rfl rfl rfl (by decide +kernel) ⟨Nat.le_of_ble_eq_true rfl, Nat.le_of_ble_eq_true rfl⟩) (g_preV hG hP hD hS hA [0, 1, 2] rfl (by decide) (ci := 6) (q0 := 0) rfl rfl) rfl rfl hl.1 rfl (lv_room (Nat.le_of_ble_eq_true rfl)) dX6_take_16 ⟨Nat.le_of_ble_eq_true rfl, Nat.le_of_ble_eq_true rfl⟩) hP hD hS hA [0, 1, 2] [] [0, 1, 2] rfl rfl (by decide) (by decide) rfl (by decide) (fun H locs hP hD hS => ?_)
    refine lv_aload_n hx hb dX6_take_19 rfl (lv_at hl 0 rfl) ?_
    refine va_get (D := (dC, dI)) (ci := 6) (v := .ref n_page) (C := RX6) (T := TX6) (N := 28) hx hb hts hinX6 hown hG.1 hP 0 rfl rfl 7 (by decide) k1 (fun _ h9 => h9) rfl dX6_take_20 ?_
    refine lv_iload_n hx hb dX6_take_23 rfl (lv_at hl 1 rfl) ?_
    obtain ⟨w7, e8, hm⟩ := bnd1_some hm
    refine g_callv (w2 := (wd_e9dc6f k n_t n_text n_readPage n_page n_trial n_book n_kept n_isKept n_seenStation n_seenOther n_seenWide n_seenWas n_sines n_at n_column n_gram n_right n_work (0 : Int32) v_textSize v_place v_stations v_readStations w4 v_seen v_seed v_wide v_up v_low w7 w5)) (va_runS (As := [.ref n_page, .int x1]) (rest := []) ⟨hx, hb, hml, hown, hts⟩ (m_X6_takeOn l dC dI k F H.size n_page r_page x1 e8) (va_cwS 2 hts gX6_take_X6_takeOn rfl rfl rfl (by decide +kernel) ⟨Nat.le_of_ble_eq_true rfl, Nat.le_of_ble_eq_true rfl⟩) (g_preS hG hP hD hS hA [1] rfl (by decide)) rfl rfl hl.1 rfl (lv_room (Nat.le_of_ble_eq_true rfl)) dX6_take_24 ⟨Nat.le_of_ble_eq_true rfl, Nat.le_of_ble_eq_true rfl⟩) hP hD hS hA [1] [0, 2] [0, 2, 1] rfl rfl (by decide) (by decide) rfl (by decide) (fun H locs hP hD hS => ?_)
    refine lv_aload_n hx hb dX6_take_27 rfl (lv_at hl 0 rfl) ?_
    refine va_get (D := (dC, dI)) (ci := 6) (v := .ref n_page) (C := RX6) (T := TX6) (N := 28) hx hb hts hinX6 hown hG.1 hP 0 rfl rfl 7 (by decide) k1 (fun _ h9 => h9) rfl dX6_take_28 ?_
    refine lv_iconst (v := (0 : Int32)) hx hb dX6_take_31 (by decide) ?_
    obtain ⟨hi9, hm⟩ := chk_some hm
    refine va_iald hx hb hG.1 hP 1 0 rfl rfl hi9 dX6_take_32 ?_
    exact RET _ _ _ _ _ _ _ _ _ dX6_take_33 hm hP hD hS
  · replace hm := ifn c3 hm
    refine lv_iconst (v := (-1 : Int32)) hx hb dX6_take_13 (by decide) ?_
    exact RET _ _ _ _ _ _ _ _ _ dX6_take_14 hm hP hD hS
set_option maxRecDepth 100000 in
theorem m_X6_take (l : Launch) (dC : Nat → ClassId) (dI : Nat → Nat → Nat) (k : Nat → ClassId) (F : Nat) (sz : Nat) (n_t n_text n_readPage n_page n_trial n_book n_kept n_isKept n_seenStation n_seenOther n_seenWide n_seenWas n_sines n_at n_column n_gram n_right n_work : Nat) (v_thrown : Int32) (v_textSize : Int32) (v_place : Int32) (v_stations : Int32) (v_readStations : Int32) (v_doings : Int32) (v_seen : Int32) (v_seed : Int64) (v_wide : Int32) (v_up : Int64) (v_low : Int64) (r_page : Nat → Int32) (r_book : Nat → Int32) (x1 : Int32) {o_r : Int32} {o_v_thrown : (Int32)} {o_v_doings : (Int32)} {o_r_page : (Nat → Int32)} {o_r_book : (Nat → Int32)} (hm : f_X6_take F x1 v_thrown v_doings r_page r_book = some (o_r, o_v_thrown, o_v_doings, o_r_page, o_r_book)) : Met l yX6_take wsX6_take rm_X6_take (gPre dC dI k [.ref n_t, .int x1] sz (wd_e9dc6f k n_t n_text n_readPage n_page n_trial n_book n_kept n_isKept n_seenStation n_seenOther n_seenWide n_seenWas n_sines n_at n_column n_gram n_right n_work v_thrown v_textSize v_place v_stations v_readStations v_doings v_seen v_seed v_wide v_up v_low r_page r_book)) (gQI dC dI (va_A (wd_e9dc6f k n_t n_text n_readPage n_page n_trial n_book n_kept n_isKept n_seenStation n_seenOther n_seenWide n_seenWas n_sines n_at n_column n_gram n_right n_work v_thrown v_textSize v_place v_stations v_readStations v_doings v_seen v_seed v_wide v_up v_low r_page r_book) sz) o_r (wd_e9dc6f k n_t n_text n_readPage n_page n_trial n_book n_kept n_isKept n_seenStation n_seenOther n_seenWide n_seenWas n_sines n_at n_column n_gram n_right n_work o_v_thrown v_textSize v_place v_stations v_readStations o_v_doings v_seen v_seed v_wide v_up v_low o_r_page o_r_book)) 0 0 (va_A (wd_e9dc6f k n_t n_text n_readPage n_page n_trial n_book n_kept n_isKept n_seenStation n_seenOther n_seenWide n_seenWas n_sines n_at n_column n_gram n_right n_work v_thrown v_textSize v_place v_stations v_readStations v_doings v_seen v_seed v_wide v_up v_low r_page r_book) sz) := by
  refine g_entry (cc := cX6_take) (maxL := 2) (ret := (some .int)) (lv := [(0, .ref n_t), (1, .int x1)]) (by decide +kernel) rfl (Nat.le_of_ble_eq_true rfl) rfl (fun p e s m below meth c ls hx hb hr hml hts hown hlk hnm hsz hG hA hP hD hS hl => ?_)
  exact k_X6_take hx hb hml hts hown hG hA F n_t n_text n_readPage n_page n_trial n_book n_kept n_isKept n_seenStation n_seenOther n_seenWide n_seenWas n_sines n_at n_column n_gram n_right n_work v_thrown v_textSize v_place v_stations v_readStations v_doings v_seen v_seed v_wide v_up v_low r_page r_book x1 o_r o_v_thrown o_v_doings o_r_page o_r_book (fun pc H locs ls v q_v_thrown q_v_doings q_r_page q_r_book hd ho hP hD hS => by cases ho; exact g_ireti hx hb hr hlk hP hD hS hd) s.heap [] ls hl hP hD hS hm
end
section
set_option maxHeartbeats 4000000 in
set_option maxRecDepth 100000 in
theorem k_X6_read {p : Program} {l : Launch} {e : Env} {s : State} {m : MethodId} {args : Array Value} {below : List Frame} {meth : Method} {c : Code} {A : Nat → Prop} {Q : State → Prop} {dC : Nat → ClassId} {dI : Nat → Nat → Nat} {k : Nat → ClassId} (hx : p.tables.exec = Jvm.exec) (hb : c.code = cX6_read) (hml : c.maxLocals = 5) (hts : ∀ w ∈ wsX6_read, w.before args s = true) (hown : s.vm.findClass RX6 = some m.cls) (hG : gK dC dI k A s) (hA : ∀ q : Nat, s.heap.size ≤ q → A q) (F : Nat) (n_t n_text n_readPage n_page n_trial n_book n_kept n_isKept n_seenStation n_seenOther n_seenWide n_seenWas n_sines n_at n_column n_gram n_right n_work : Nat) (v_thrown : Int32) (v_textSize : Int32) (v_place : Int32) (v_stations : Int32) (v_readStations : Int32) (v_doings : Int32) (v_seen : Int32) (v_seed : Int64) (v_wide : Int32) (v_up : Int64) (v_low : Int64) (r_page : Nat → Int32) (r_book : Nat → Int32) (x1 : Int32) (x2 : Int32) (x3 : Int32) (o_r : Int32) (o_v_thrown : (Int32)) (o_v_doings : (Int32)) (o_r_page : (Nat → Int32)) (o_r_book : (Nat → Int32)) (RET : ∀ (pc : Nat) (H : Heap) (locs : List Loc) (ls : Array Slot) (v : Int32) (q_v_thrown : Int32) (q_v_doings : Int32) (q_r_page : Nat → Int32) (q_r_book : Nat → Int32), decode cX6_read pc = .ok (.ireturn, 1) → some (v, q_v_thrown, q_v_doings, q_r_page, q_r_book) = some (o_r, o_v_thrown, o_v_doings, o_r_page, o_r_book) → va_P (dC, dI) vwCl (wd_e9dc6f k n_t n_text n_readPage n_page n_trial n_book n_kept n_isKept n_seenStation n_seenOther n_seenWide n_seenWas n_sines n_at n_column n_gram n_right n_work q_v_thrown v_textSize v_place v_stations v_readStations q_v_doings v_seen v_seed v_wide v_up v_low q_r_page q_r_book) H → va_D A (wd_e9dc6f k n_t n_text n_readPage n_page n_trial n_book n_kept n_isKept n_seenStation n_seenOther n_seenWide n_seenWas n_sines n_at n_column n_gram n_right n_work q_v_thrown v_textSize v_place v_stations v_readStations q_v_doings v_seen v_seed v_wide v_up v_low q_r_page q_r_book) → va_S A s.heap H locs → W p l e rm_X6_read s m args below meth c H locs 0 0 Q (F0 m pc ls [.int v])) (H : Heap) (locs : List Loc) (ls : Array Slot) (hl : lv_has ls 5 [(0, .ref n_t), (1, .int x1), (2, .int x2), (3, .int x3)]) (hP : va_P (dC, dI) vwCl (wd_e9dc6f k n_t n_text n_readPage n_page n_trial n_book n_kept n_isKept n_seenStation n_seenOther n_seenWide n_seenWas n_sines n_at n_column n_gram n_right n_work v_thrown v_textSize v_place v_stations v_readStations v_doings v_seen v_seed v_wide v_up v_low r_page r_book) H) (hD : va_D A (wd_e9dc6f k n_t n_text n_readPage n_page n_trial n_book n_kept n_isKept n_seenStation n_seenOther n_seenWide n_seenWas n_sines n_at n_column n_gram n_right n_work v_thrown v_textSize v_place v_stations v_readStations v_doings v_seen v_seed v_wide v_up v_low r_page r_book)) (hS : va_S A s.heap H locs) (hm : f_X6_read F x1 x2 x3 v_thrown v_doings r_page r_book = some (o_r, o_v_thrown, o_v_doings, o_r_page, o_r_book)) : W p l e rm_X6_read s m args below meth c H locs 0 0 Q (F0 m 0 ls []) := by
  have hinX6 : ∀ w ∈ u_ws RX6 TX6 28, w ∈ wsX6_read := by decide +kernel
  have k0 := hts (.fieldLink RX6 67 "CaveLegsModel" "thrown" "I") (by decide +kernel)
  have k1 := hts (.constantLong RX6 142 (3)) (by decide +kernel)
  have k2 := hts (.fieldLink RX6 20 "CaveLegsModel" "page" "[I") (by decide +kernel)
  unfold f_X6_read at hm
  refine lv_aload_n hx hb dX6_read_0 rfl (lv_at hl 0 rfl) ?_
  refine lv_iconst (v := (0 : Int32)) hx hb dX6_read_1 (by decide) ?_
  refine va_put (D := (dC, dI)) (ci := 6) (v := .int (0 : Int32)) (ty := .int) (C := RX6) (T := TX6) (N := 28) hx hb hts hinX6 tyX6 tyX6_ok nmX6 hown hG.1 hP hD hS 0 rfl rfl 0 (by decide) k0 (fun _ h9 => h9) rfl (by decide +kernel) rfl rfl (Nat.le_of_ble_eq_true rfl) dX6_read_2 (fun H locs hP hD hS => ?_)
  replace hP : va_P (dC, dI) vwCl (wd_e9dc6f k n_t n_text n_readPage n_page n_trial n_book n_kept n_isKept n_seenStation n_seenOther n_seenWide n_seenWas n_sines n_at n_column n_gram n_right n_work (0 : Int32) v_textSize v_place v_stations v_readStations v_doings v_seen v_seed v_wide v_up v_low r_page r_book) H := hP
  replace hD : va_D A (wd_e9dc6f k n_t n_text n_readPage n_page n_trial n_book n_kept n_isKept n_seenStation n_seenOther n_seenWide n_seenWas n_sines n_at n_column n_gram n_right n_work (0 : Int32) v_textSize v_place v_stations v_readStations v_doings v_seen v_seed v_wide v_up v_low r_page r_book) := hD
  refine lv_aload_n hx hb dX6_read_5 rfl (lv_at hl 0 rfl) ?_
  refine lv_iload_n hx hb dX6_read_6 rfl (lv_at hl 1 rfl) ?_
  obtain ⟨r1, e2, hm⟩ := bnd1_some hm
  refine g_calli (w2 := (wd_e9dc6f k n_t n_text n_readPage n_page n_trial n_book n_kept n_isKept n_seenStation n_seenOther n_seenWide n_seenWas n_sines n_at n_column n_gram n_right n_work (0 : Int32) v_textSize v_place v_stations v_readStations v_doings v_seen v_seed v_wide v_up v_low r_page r_book)) (va_runV (As := [.int x1]) (rest := []) ⟨hx, hb, hml, hown, hts⟩ (m_X6_noLeg l dC dI k H.size n_t n_text n_readPage n_page n_trial n_book n_kept n_isKept n_seenStation n_seenOther n_seenWide n_seenWas n_sines n_at n_column n_gram n_right n_work (0 : Int32) v_textSize v_place v_stations v_readStations v_doings v_seen v_seed v_wide v_up v_low r_page x1 e2) (cwV 1 hts gX6_read_X6_noLeg rfl rfl rfl (by decide +kernel) ⟨Nat.le_of_ble_eq_true rfl, Nat.le_of_ble_eq_true rfl⟩) (g_preV hG hP hD hS hA [0, 1] rfl (by decide) (ci := 6) (q0 := 0) rfl rfl) rfl rfl hl.1 rfl (lv_room (Nat.le_of_ble_eq_true rfl)) dX6_read_7 ⟨Nat.le_of_ble_eq_true rfl, Nat.le_of_ble_eq_true rfl⟩) hP hD hS hA [0, 1] [2] [1, 2, 0] rfl rfl (by decide) (by decide) rfl (by decide) (fun H locs hP hD hS => ?_)
  refine lv_if_eq (tgt := 15) hx hb dX6_read_10 (by decide) (fun c3 => ?_) (fun c3 => ?_)
  · replace hm := ifp c3 hm
    refine lv_iload_n hx hb dX6_read_15 rfl (lv_at hl 2 rfl) ?_
    refine g_i2l hx hb dX6_read_16 ?_
    refine lv_lconst (v := (0 : Int64)) hx hb dX6_read_17 (by decide) ?_
    refine lv_ldc2 (v := (3 : Int64)) hx hb hown k1 dX6_read_18 ?_
    obtain ⟨r4, e5, hm⟩ := bnd1_some hm
    refine g_calli (w2 := (wd_e9dc6f k n_t n_text n_readPage n_page n_trial n_book n_kept n_isKept n_seenStation n_seenOther n_seenWide n_seenWas n_sines n_at n_column n_gram n_right n_work (0 : Int32) v_textSize v_place v_stations v_readStations v_doings v_seen v_seed v_wide v_up v_low r_page r_book)) (va_runS (As := [.long (Int32.toInt64 x2), .long (0 : Int64), .long (3 : Int64)]) (rest := []) ⟨hx, hb, hml, hown, hts⟩ (m_X6_in l dC dI k H.size  (Int32.toInt64 x2) (0 : Int64) (3 : Int64) e5) (va_cwS 3 hts gX6_read_X6_in rfl rfl rfl (by decide +kernel) ⟨Nat.le_of_ble_eq_true rfl, Nat.le_of_ble_eq_true rfl⟩) (g_preS hG hP hD hS hA [] rfl (by decide)) rfl rfl hl.1 rfl (lv_room (Nat.le_of_ble_eq_true rfl)) dX6_read_21 ⟨Nat.le_of_ble_eq_true rfl, Nat.le_of_ble_eq_true rfl⟩) hP hD hS hA [] [0, 1, 2] [0, 1, 2] rfl rfl (by decide) (by decide) rfl (by decide) (fun H locs hP hD hS => ?_)
    refine lv_if_eq (tgt := 35) hx hb dX6_read_24 (by decide) (fun c6 => ?_) (fun c6 => ?_)
    · replace hm := ifp c6 hm
      refine lv_bipush (v := (-2 : Int32)) hx hb dX6_read_35 (by decide) ?_
      exact RET _ _ _ _ _ _ _ _ _ dX6_read_37 hm hP hD hS
    · replace hm := ifn c6 hm
      refine lv_iload_n hx hb dX6_read_27 rfl (lv_at hl 2 rfl) ?_
      refine lv_iload_n hx hb dX6_read_28 rfl (lv_at hl 3 rfl) ?_
      obtain ⟨r7, e8, hm⟩ := bnd1_some hm
      refine g_calli (w2 := (wd_e9dc6f k n_t n_text n_readPage n_page n_trial n_book n_kept n_isKept n_seenStation n_seenOther n_seenWide n_seenWas n_sines n_at n_column n_gram n_right n_work (0 : Int32) v_textSize v_place v_stations v_readStations v_doings v_seen v_seed v_wide v_up v_low r_page r_book)) (va_runS (As := [.int x2, .int x3]) (rest := []) ⟨hx, hb, hml, hown, hts⟩ (m_X6_fits l dC dI k H.size  x2 x3 e8) (va_cwS 2 hts gX6_read_X6_fits rfl rfl rfl (by decide +kernel) ⟨Nat.le_of_ble_eq_true rfl, Nat.le_of_ble_eq_true rfl⟩) (g_preS hG hP hD hS hA [] rfl (by decide)) rfl rfl hl.1 rfl (lv_room (Nat.le_of_ble_eq_true rfl)) dX6_read_29 ⟨Nat.le_of_ble_eq_true rfl, Nat.le_of_ble_eq_true rfl⟩) hP hD hS hA [] [0, 1, 2] [0, 1, 2] rfl rfl (by decide) (by decide) rfl (by decide) (fun H locs hP hD hS => ?_)
      refine lv_if_ne (tgt := 38) hx hb dX6_read_32 (by decide) (fun c9 => ?_) (fun c9 => ?_)
      · replace hm := ifn c9 hm
        refine lv_aload_n hx hb dX6_read_38 rfl (lv_at hl 0 rfl) ?_
        obtain ⟨w10, w11, e12, hm⟩ := bnd2_some hm
        refine g_callv (w2 := (wd_e9dc6f k n_t n_text n_readPage n_page n_trial n_book n_kept n_isKept n_seenStation n_seenOther n_seenWide n_seenWas n_sines n_at n_column n_gram n_right n_work (0 : Int32) v_textSize v_place v_stations v_readStations w10 v_seen v_seed v_wide v_up v_low r_page w11)) (va_runV (As := []) (rest := []) ⟨hx, hb, hml, hown, hts⟩ (m_X6_note l dC dI k F H.size n_t n_text n_readPage n_page n_trial n_book n_kept n_isKept n_seenStation n_seenOther n_seenWide n_seenWas n_sines n_at n_column n_gram n_right n_work (0 : Int32) v_textSize v_place v_stations v_readStations v_doings v_seen v_seed v_wide v_up v_low r_page r_book  e12) (cwV 0 hts gX6_read_X6_note rfl rfl rfl (by decide +kernel) ⟨Nat.le_of_ble_eq_true rfl, Nat.le_of_ble_eq_true rfl⟩) (g_preV hG hP hD hS hA [0, 1, 2] rfl (by decide) (ci := 6) (q0 := 0) rfl rfl) rfl rfl hl.1 rfl (lv_room (Nat.le_of_ble_eq_true rfl)) dX6_read_39 ⟨Nat.le_of_ble_eq_true rfl, Nat.le_of_ble_eq_true rfl⟩) hP hD hS hA [0, 1, 2] [] [0, 1, 2] rfl rfl (by decide) (by decide) rfl (by decide) (fun H locs hP hD hS => ?_)
        refine lv_aload_n hx hb dX6_read_42 rfl (lv_at hl 0 rfl) ?_
        refine va_get (D := (dC, dI)) (ci := 6) (v := .ref n_page) (C := RX6) (T := TX6) (N := 28) hx hb hts hinX6 hown hG.1 hP 0 rfl rfl 7 (by decide) k2 (fun _ h9 => h9) rfl dX6_read_43 ?_
        refine lv_iload_n hx hb dX6_read_46 rfl (lv_at hl 1 rfl) ?_
        refine lv_iload_n hx hb dX6_read_47 rfl (lv_at hl 2 rfl) ?_
        obtain ⟨r13, e14, hm⟩ := bnd1_some hm
        refine g_calli (w2 := (wd_e9dc6f k n_t n_text n_readPage n_page n_trial n_book n_kept n_isKept n_seenStation n_seenOther n_seenWide n_seenWas n_sines n_at n_column n_gram n_right n_work (0 : Int32) v_textSize v_place v_stations v_readStations w10 v_seen v_seed v_wide v_up v_low r_page w11)) (va_runS (As := [.ref n_page, .int x1, .int x2]) (rest := []) ⟨hx, hb, hml, hown, hts⟩ (m_X6_of l dC dI k H.size n_page r_page x1 x2 e14) (va_cwS 3 hts gX6_read_X6_of rfl rfl rfl (by decide +kernel) ⟨Nat.le_of_ble_eq_true rfl, Nat.le_of_ble_eq_true rfl⟩) (g_preS hG hP hD hS hA [1] rfl (by decide)) rfl rfl hl.1 rfl (lv_room (Nat.le_of_ble_eq_true rfl)) dX6_read_48 ⟨Nat.le_of_ble_eq_true rfl, Nat.le_of_ble_eq_true rfl⟩) hP hD hS hA [1] [0, 2] [0, 2, 1] rfl rfl (by decide) (by decide) rfl (by decide) (fun H locs hP hD hS => ?_)
        refine lv_istore (lv' := [(4, .int r13), (0, .ref n_t), (1, .int x1), (2, .int x2), (3, .int x3)]) hx hb dX6_read_51 hl (by decide) rfl (fun ls hl => ?_)
        refine lv_aload_n hx hb dX6_read_53 rfl (lv_at hl 1 rfl) ?_
        refine va_get (D := (dC, dI)) (ci := 6) (v := .ref n_page) (C := RX6) (T := TX6) (N := 28) hx hb hts hinX6 hown hG.1 hP 0 rfl rfl 7 (by decide) k2 (fun _ h9 => h9) rfl dX6_read_54 ?_
        refine lv_iconst (v := (2 : Int32)) hx hb dX6_read_57 (by decide) ?_
        refine lv_bipush (v := (6 : Int32)) hx hb dX6_read_58 (by decide) ?_
        refine lv_iload_n hx hb dX6_read_60 rfl (lv_at hl 2 rfl) ?_
        refine lv_imul hx hb dX6_read_61 ?_
        refine lv_iadd hx hb dX6_read_62 ?_
        refine lv_iload_n hx hb dX6_read_63 rfl (lv_at hl 3 rfl) ?_
        refine lv_iadd hx hb dX6_read_64 ?_
        refine lv_iload_n hx hb dX6_read_65 rfl (lv_at hl 4 rfl) ?_
        obtain ⟨hi15, hm⟩ := chk_some hm
        refine va_iast hx hb hG.1 hP hD hS 1 0 rfl rfl hi15 dX6_read_66 (fun H locs hP hD hS => ?_)
        replace hP : va_P (dC, dI) vwCl (wd_e9dc6f k n_t n_text n_readPage n_page n_trial n_book n_kept n_isKept n_seenStation n_seenOther n_seenWide n_seenWas n_sines n_at n_column n_gram n_right n_work (0 : Int32) v_textSize v_place v_stations v_readStations w10 v_seen v_seed v_wide v_up v_low (upd r_page (Int32.toNatClampNeg (((2 : Int32) + ((6 : Int32) * x1)) + x2)) x3) w11) H := hP
        replace hD : va_D A (wd_e9dc6f k n_t n_text n_readPage n_page n_trial n_book n_kept n_isKept n_seenStation n_seenOther n_seenWide n_seenWas n_sines n_at n_column n_gram n_right n_work (0 : Int32) v_textSize v_place v_stations v_readStations w10 v_seen v_seed v_wide v_up v_low (upd r_page (Int32.toNatClampNeg (((2 : Int32) + ((6 : Int32) * x1)) + x2)) x3) w11) := hD
        refine lv_iload hx hb dX6_read_67 (lv_at hl 0 rfl) ?_
        exact RET _ _ _ _ _ _ _ _ _ dX6_read_69 hm hP hD hS
      · replace hm := ifp c9 hm
        refine lv_bipush (v := (-2 : Int32)) hx hb dX6_read_35 (by decide) ?_
        exact RET _ _ _ _ _ _ _ _ _ dX6_read_37 hm hP hD hS
  · replace hm := ifn c3 hm
    refine lv_iconst (v := (-1 : Int32)) hx hb dX6_read_13 (by decide) ?_
    exact RET _ _ _ _ _ _ _ _ _ dX6_read_14 hm hP hD hS
set_option maxRecDepth 100000 in
theorem m_X6_read (l : Launch) (dC : Nat → ClassId) (dI : Nat → Nat → Nat) (k : Nat → ClassId) (F : Nat) (sz : Nat) (n_t n_text n_readPage n_page n_trial n_book n_kept n_isKept n_seenStation n_seenOther n_seenWide n_seenWas n_sines n_at n_column n_gram n_right n_work : Nat) (v_thrown : Int32) (v_textSize : Int32) (v_place : Int32) (v_stations : Int32) (v_readStations : Int32) (v_doings : Int32) (v_seen : Int32) (v_seed : Int64) (v_wide : Int32) (v_up : Int64) (v_low : Int64) (r_page : Nat → Int32) (r_book : Nat → Int32) (x1 : Int32) (x2 : Int32) (x3 : Int32) {o_r : Int32} {o_v_thrown : (Int32)} {o_v_doings : (Int32)} {o_r_page : (Nat → Int32)} {o_r_book : (Nat → Int32)} (hm : f_X6_read F x1 x2 x3 v_thrown v_doings r_page r_book = some (o_r, o_v_thrown, o_v_doings, o_r_page, o_r_book)) : Met l yX6_read wsX6_read rm_X6_read (gPre dC dI k [.ref n_t, .int x1, .int x2, .int x3] sz (wd_e9dc6f k n_t n_text n_readPage n_page n_trial n_book n_kept n_isKept n_seenStation n_seenOther n_seenWide n_seenWas n_sines n_at n_column n_gram n_right n_work v_thrown v_textSize v_place v_stations v_readStations v_doings v_seen v_seed v_wide v_up v_low r_page r_book)) (gQI dC dI (va_A (wd_e9dc6f k n_t n_text n_readPage n_page n_trial n_book n_kept n_isKept n_seenStation n_seenOther n_seenWide n_seenWas n_sines n_at n_column n_gram n_right n_work v_thrown v_textSize v_place v_stations v_readStations v_doings v_seen v_seed v_wide v_up v_low r_page r_book) sz) o_r (wd_e9dc6f k n_t n_text n_readPage n_page n_trial n_book n_kept n_isKept n_seenStation n_seenOther n_seenWide n_seenWas n_sines n_at n_column n_gram n_right n_work o_v_thrown v_textSize v_place v_stations v_readStations o_v_doings v_seen v_seed v_wide v_up v_low o_r_page o_r_book)) 0 0 (va_A (wd_e9dc6f k n_t n_text n_readPage n_page n_trial n_book n_kept n_isKept n_seenStation n_seenOther n_seenWide n_seenWas n_sines n_at n_column n_gram n_right n_work v_thrown v_textSize v_place v_stations v_readStations v_doings v_seen v_seed v_wide v_up v_low r_page r_book) sz) := by
  refine g_entry (cc := cX6_read) (maxL := 5) (ret := (some .int)) (lv := [(0, .ref n_t), (1, .int x1), (2, .int x2), (3, .int x3)]) (by decide +kernel) rfl (Nat.le_of_ble_eq_true rfl) rfl (fun p e s m below meth c ls hx hb hr hml hts hown hlk hnm hsz hG hA hP hD hS hl => ?_)
  exact k_X6_read hx hb hml hts hown hG hA F n_t n_text n_readPage n_page n_trial n_book n_kept n_isKept n_seenStation n_seenOther n_seenWide n_seenWas n_sines n_at n_column n_gram n_right n_work v_thrown v_textSize v_place v_stations v_readStations v_doings v_seen v_seed v_wide v_up v_low r_page r_book x1 x2 x3 o_r o_v_thrown o_v_doings o_r_page o_r_book (fun pc H locs ls v q_v_thrown q_v_doings q_r_page q_r_book hd ho hP hD hS => by cases ho; exact g_ireti hx hb hr hlk hP hD hS hd) s.heap [] ls hl hP hD hS hm
end
section
set_option maxHeartbeats 4000000 in
set_option maxRecDepth 100000 in
theorem k_X6_fall {p : Program} {l : Launch} {e : Env} {s : State} {m : MethodId} {args : Array Value} {below : List Frame} {meth : Method} {c : Code} {A : Nat → Prop} {Q : State → Prop} {dC : Nat → ClassId} {dI : Nat → Nat → Nat} {k : Nat → ClassId} (hx : p.tables.exec = Jvm.exec) (hb : c.code = cX6_fall) (hml : c.maxLocals = 2) (hts : ∀ w ∈ wsX6_fall, w.before args s = true) (hown : s.vm.findClass RX6 = some m.cls) (hG : gK dC dI k A s) (hA : ∀ q : Nat, s.heap.size ≤ q → A q) (F : Nat) (n_t n_text n_readPage n_page n_trial n_book n_kept n_isKept n_seenStation n_seenOther n_seenWide n_seenWas n_sines n_at n_column n_gram n_right n_work : Nat) (v_thrown : Int32) (v_textSize : Int32) (v_place : Int32) (v_stations : Int32) (v_readStations : Int32) (v_doings : Int32) (v_seen : Int32) (v_seed : Int64) (v_wide : Int32) (v_up : Int64) (v_low : Int64) (r_page : Nat → Int32) (r_book : Nat → Int32) (x1 : Int32) (o_r : Int32) (o_v_thrown : (Int32)) (o_v_doings : (Int32)) (o_r_page : (Nat → Int32)) (o_r_book : (Nat → Int32)) (RET : ∀ (pc : Nat) (H : Heap) (locs : List Loc) (ls : Array Slot) (v : Int32) (q_v_thrown : Int32) (q_v_doings : Int32) (q_r_page : Nat → Int32) (q_r_book : Nat → Int32), decode cX6_fall pc = .ok (.ireturn, 1) → some (v, q_v_thrown, q_v_doings, q_r_page, q_r_book) = some (o_r, o_v_thrown, o_v_doings, o_r_page, o_r_book) → va_P (dC, dI) vwCl (wd_e9dc6f k n_t n_text n_readPage n_page n_trial n_book n_kept n_isKept n_seenStation n_seenOther n_seenWide n_seenWas n_sines n_at n_column n_gram n_right n_work q_v_thrown v_textSize v_place v_stations v_readStations q_v_doings v_seen v_seed v_wide v_up v_low q_r_page q_r_book) H → va_D A (wd_e9dc6f k n_t n_text n_readPage n_page n_trial n_book n_kept n_isKept n_seenStation n_seenOther n_seenWide n_seenWas n_sines n_at n_column n_gram n_right n_work q_v_thrown v_textSize v_place v_stations v_readStations q_v_doings v_seen v_seed v_wide v_up v_low q_r_page q_r_book) → va_S A s.heap H locs → W p l e rm_X6_fall s m args below meth c H locs 0 0 Q (F0 m pc ls [.int v])) (H : Heap) (locs : List Loc) (ls : Array Slot) (hl : lv_has ls 2 [(0, .ref n_t), (1, .int x1)]) (hP : va_P (dC, dI) vwCl (wd_e9dc6f k n_t n_text n_readPage n_page n_trial n_book n_kept n_isKept n_seenStation n_seenOther n_seenWide n_seenWas n_sines n_at n_column n_gram n_right n_work v_thrown v_textSize v_place v_stations v_readStations v_doings v_seen v_seed v_wide v_up v_low r_page r_book) H) (hD : va_D A (wd_e9dc6f k n_t n_text n_readPage n_page n_trial n_book n_kept n_isKept n_seenStation n_seenOther n_seenWide n_seenWas n_sines n_at n_column n_gram n_right n_work v_thrown v_textSize v_place v_stations v_readStations v_doings v_seen v_seed v_wide v_up v_low r_page r_book)) (hS : va_S A s.heap H locs) (hm : f_X6_fall F x1 v_thrown v_doings r_page r_book = some (o_r, o_v_thrown, o_v_doings, o_r_page, o_r_book)) : W p l e rm_X6_fall s m args below meth c H locs 0 0 Q (F0 m 0 ls []) := by
  have hinX6 : ∀ w ∈ u_ws RX6 TX6 28, w ∈ wsX6_fall := by decide +kernel
  have k0 := hts (.fieldLink RX6 67 "CaveLegsModel" "thrown" "I") (by decide +kernel)
  have k1 := hts (.fieldLink RX6 20 "CaveLegsModel" "page" "[I") (by decide +kernel)
  unfold f_X6_fall at hm
  refine lv_aload_n hx hb dX6_fall_0 rfl (lv_at hl 0 rfl) ?_
  refine lv_iconst (v := (0 : Int32)) hx hb dX6_fall_1 (by decide) ?_
  refine va_put (D := (dC, dI)) (ci := 6) (v := .int (0 : Int32)) (ty := .int) (C := RX6) (T := TX6) (N := 28) hx hb hts hinX6 tyX6 tyX6_ok nmX6 hown hG.1 hP hD hS 0 rfl rfl 0 (by decide) k0 (fun _ h9 => h9) rfl (by decide +kernel) rfl rfl (Nat.le_of_ble_eq_true rfl) dX6_fall_2 (fun H locs hP hD hS => ?_)
  replace hP : va_P (dC, dI) vwCl (wd_e9dc6f k n_t n_text n_readPage n_page n_trial n_book n_kept n_isKept n_seenStation n_seenOther n_seenWide n_seenWas n_sines n_at n_column n_gram n_right n_work (0 : Int32) v_textSize v_place v_stations v_readStations v_doings v_seen v_seed v_wide v_up v_low r_page r_book) H := hP
  replace hD : va_D A (wd_e9dc6f k n_t n_text n_readPage n_page n_trial n_book n_kept n_isKept n_seenStation n_seenOther n_seenWide n_seenWas n_sines n_at n_column n_gram n_right n_work (0 : Int32) v_textSize v_place v_stations v_readStations v_doings v_seen v_seed v_wide v_up v_low r_page r_book) := hD
  refine lv_aload_n hx hb dX6_fall_5 rfl (lv_at hl 0 rfl) ?_
  refine lv_iload_n hx hb dX6_fall_6 rfl (lv_at hl 1 rfl) ?_
  obtain ⟨r1, e2, hm⟩ := bnd1_some hm
  refine g_calli (w2 := (wd_e9dc6f k n_t n_text n_readPage n_page n_trial n_book n_kept n_isKept n_seenStation n_seenOther n_seenWide n_seenWas n_sines n_at n_column n_gram n_right n_work (0 : Int32) v_textSize v_place v_stations v_readStations v_doings v_seen v_seed v_wide v_up v_low r_page r_book)) (va_runV (As := [.int x1]) (rest := []) ⟨hx, hb, hml, hown, hts⟩ (m_X6_noLeg l dC dI k H.size n_t n_text n_readPage n_page n_trial n_book n_kept n_isKept n_seenStation n_seenOther n_seenWide n_seenWas n_sines n_at n_column n_gram n_right n_work (0 : Int32) v_textSize v_place v_stations v_readStations v_doings v_seen v_seed v_wide v_up v_low r_page x1 e2) (cwV 1 hts gX6_fall_X6_noLeg rfl rfl rfl (by decide +kernel) ⟨Nat.le_of_ble_eq_true rfl, Nat.le_of_ble_eq_true rfl⟩) (g_preV hG hP hD hS hA [0, 1] rfl (by decide) (ci := 6) (q0 := 0) rfl rfl) rfl rfl hl.1 rfl (lv_room (Nat.le_of_ble_eq_true rfl)) dX6_fall_7 ⟨Nat.le_of_ble_eq_true rfl, Nat.le_of_ble_eq_true rfl⟩) hP hD hS hA [0, 1] [2] [1, 2, 0] rfl rfl (by decide) (by decide) rfl (by decide) (fun H locs hP hD hS => ?_)
  refine lv_if_eq (tgt := 15) hx hb dX6_fall_10 (by decide) (fun c3 => ?_) (fun c3 => ?_)
  · replace hm := ifp c3 hm
    refine lv_aload_n hx hb dX6_fall_15 rfl (lv_at hl 0 rfl) ?_
    obtain ⟨w4, w5, e6, hm⟩ := bnd2_some hm
    refine g_callv (w2 := (wd_e9dc6f k n_t n_text n_readPage n_page n_trial n_book n_kept n_isKept n_seenStation n_seenOther n_seenWide n_seenWas n_sines n_at n_column n_gram n_right n_work (0 : Int32) v_textSize v_place v_stations v_readStations w4 v_seen v_seed v_wide v_up v_low r_page w5)) (va_runV (As := []) (rest := []) ⟨hx, hb, hml, hown, hts⟩ (m_X6_note l dC dI k F H.size n_t n_text n_readPage n_page n_trial n_book n_kept n_isKept n_seenStation n_seenOther n_seenWide n_seenWas n_sines n_at n_column n_gram n_right n_work (0 : Int32) v_textSize v_place v_stations v_readStations v_doings v_seen v_seed v_wide v_up v_low r_page r_book  e6) (cwV 0 hts gX6_fall_X6_note rfl rfl rfl (by decide +kernel) ⟨Nat.le_of_ble_eq_true rfl, Nat.le_of_ble_eq_true rfl⟩) (g_preV hG hP hD hS hA [0, 1, 2] rfl (by decide) (ci := 6) (q0 := 0) rfl rfl) rfl rfl hl.1 rfl (lv_room (Nat.le_of_ble_eq_true rfl)) dX6_fall_16 ⟨Nat.le_of_ble_eq_true rfl, Nat.le_of_ble_eq_true rfl⟩) hP hD hS hA [0, 1, 2] [] [0, 1, 2] rfl rfl (by decide) (by decide) rfl (by decide) (fun H locs hP hD hS => ?_)
    refine lv_aload_n hx hb dX6_fall_19 rfl (lv_at hl 0 rfl) ?_
    refine va_get (D := (dC, dI)) (ci := 6) (v := .ref n_page) (C := RX6) (T := TX6) (N := 28) hx hb hts hinX6 hown hG.1 hP 0 rfl rfl 7 (by decide) k1 (fun _ h9 => h9) rfl dX6_fall_20 ?_
    refine lv_iconst (v := (1 : Int32)) hx hb dX6_fall_23 (by decide) ?_
    refine lv_dup2_11 hx hb dX6_fall_24 rfl rfl ?_
    obtain ⟨hi7, hm⟩ := chk_some hm
    refine va_iald hx hb hG.1 hP 1 0 rfl rfl hi7 dX6_fall_25 ?_
    refine lv_iconst (v := (1 : Int32)) hx hb dX6_fall_26 (by decide) ?_
    refine lv_iload_n hx hb dX6_fall_27 rfl (lv_at hl 1 rfl) ?_
    refine g_ishl hx hb dX6_fall_28 ?_
    refine lv_ixor hx hb dX6_fall_29 ?_
    refine lv_topi (fun t8 et8 => ?_)
    replace hm := (nmd_eq et8).trans hm
    obtain ⟨hi9, hm⟩ := chk_some hm
    refine va_iast hx hb hG.1 hP hD hS 1 0 rfl rfl hi9 dX6_fall_30 (fun H locs hP hD hS => ?_)
    replace hP : va_P (dC, dI) vwCl (wd_e9dc6f k n_t n_text n_readPage n_page n_trial n_book n_kept n_isKept n_seenStation n_seenOther n_seenWide n_seenWas n_sines n_at n_column n_gram n_right n_work (0 : Int32) v_textSize v_place v_stations v_readStations w4 v_seen v_seed v_wide v_up v_low (upd r_page (Int32.toNatClampNeg (1 : Int32)) t8) w5) H := hP
    replace hD : va_D A (wd_e9dc6f k n_t n_text n_readPage n_page n_trial n_book n_kept n_isKept n_seenStation n_seenOther n_seenWide n_seenWas n_sines n_at n_column n_gram n_right n_work (0 : Int32) v_textSize v_place v_stations v_readStations w4 v_seen v_seed v_wide v_up v_low (upd r_page (Int32.toNatClampNeg (1 : Int32)) t8) w5) := hD
    refine lv_aload_n hx hb dX6_fall_31 rfl (lv_at hl 0 rfl) ?_
    refine va_get (D := (dC, dI)) (ci := 6) (v := .ref n_page) (C := RX6) (T := TX6) (N := 28) hx hb hts hinX6 hown hG.1 hP 0 rfl rfl 7 (by decide) k1 (fun _ h9 => h9) rfl dX6_fall_32 ?_
    refine lv_iconst (v := (1 : Int32)) hx hb dX6_fall_35 (by decide) ?_
    obtain ⟨hi10, hm⟩ := chk_some hm
    refine va_iald hx hb hG.1 hP 1 0 rfl rfl hi10 dX6_fall_36 ?_
    refine lv_iload_n hx hb dX6_fall_37 rfl (lv_at hl 1 rfl) ?_
    refine g_ishr hx hb dX6_fall_38 ?_
    refine lv_iconst (v := (1 : Int32)) hx hb dX6_fall_39 (by decide) ?_
    refine lv_iand hx hb dX6_fall_40 ?_
    exact RET _ _ _ _ _ _ _ _ _ dX6_fall_41 hm hP hD hS
  · replace hm := ifn c3 hm
    refine lv_iconst (v := (-1 : Int32)) hx hb dX6_fall_13 (by decide) ?_
    exact RET _ _ _ _ _ _ _ _ _ dX6_fall_14 hm hP hD hS
set_option maxRecDepth 100000 in
theorem m_X6_fall (l : Launch) (dC : Nat → ClassId) (dI : Nat → Nat → Nat) (k : Nat → ClassId) (F : Nat) (sz : Nat) (n_t n_text n_readPage n_page n_trial n_book n_kept n_isKept n_seenStation n_seenOther n_seenWide n_seenWas n_sines n_at n_column n_gram n_right n_work : Nat) (v_thrown : Int32) (v_textSize : Int32) (v_place : Int32) (v_stations : Int32) (v_readStations : Int32) (v_doings : Int32) (v_seen : Int32) (v_seed : Int64) (v_wide : Int32) (v_up : Int64) (v_low : Int64) (r_page : Nat → Int32) (r_book : Nat → Int32) (x1 : Int32) {o_r : Int32} {o_v_thrown : (Int32)} {o_v_doings : (Int32)} {o_r_page : (Nat → Int32)} {o_r_book : (Nat → Int32)} (hm : f_X6_fall F x1 v_thrown v_doings r_page r_book = some (o_r, o_v_thrown, o_v_doings, o_r_page, o_r_book)) : Met l yX6_fall wsX6_fall rm_X6_fall (gPre dC dI k [.ref n_t, .int x1] sz (wd_e9dc6f k n_t n_text n_readPage n_page n_trial n_book n_kept n_isKept n_seenStation n_seenOther n_seenWide n_seenWas n_sines n_at n_column n_gram n_right n_work v_thrown v_textSize v_place v_stations v_readStations v_doings v_seen v_seed v_wide v_up v_low r_page r_book)) (gQI dC dI (va_A (wd_e9dc6f k n_t n_text n_readPage n_page n_trial n_book n_kept n_isKept n_seenStation n_seenOther n_seenWide n_seenWas n_sines n_at n_column n_gram n_right n_work v_thrown v_textSize v_place v_stations v_readStations v_doings v_seen v_seed v_wide v_up v_low r_page r_book) sz) o_r (wd_e9dc6f k n_t n_text n_readPage n_page n_trial n_book n_kept n_isKept n_seenStation n_seenOther n_seenWide n_seenWas n_sines n_at n_column n_gram n_right n_work o_v_thrown v_textSize v_place v_stations v_readStations o_v_doings v_seen v_seed v_wide v_up v_low o_r_page o_r_book)) 0 0 (va_A (wd_e9dc6f k n_t n_text n_readPage n_page n_trial n_book n_kept n_isKept n_seenStation n_seenOther n_seenWide n_seenWas n_sines n_at n_column n_gram n_right n_work v_thrown v_textSize v_place v_stations v_readStations v_doings v_seen v_seed v_wide v_up v_low r_page r_book) sz) := by
  refine g_entry (cc := cX6_fall) (maxL := 2) (ret := (some .int)) (lv := [(0, .ref n_t), (1, .int x1)]) (by decide +kernel) rfl (Nat.le_of_ble_eq_true rfl) rfl (fun p e s m below meth c ls hx hb hr hml hts hown hlk hnm hsz hG hA hP hD hS hl => ?_)
  exact k_X6_fall hx hb hml hts hown hG hA F n_t n_text n_readPage n_page n_trial n_book n_kept n_isKept n_seenStation n_seenOther n_seenWide n_seenWas n_sines n_at n_column n_gram n_right n_work v_thrown v_textSize v_place v_stations v_readStations v_doings v_seen v_seed v_wide v_up v_low r_page r_book x1 o_r o_v_thrown o_v_doings o_r_page o_r_book (fun pc H locs ls v q_v_thrown q_v_doings q_r_page q_r_book hd ho hP hD hS => by cases ho; exact g_ireti hx hb hr hlk hP hD hS hd) s.heap [] ls hl hP hD hS hm
end
section
set_option maxHeartbeats 4000000 in
set_option maxRecDepth 100000 in
theorem k_X6_undo {p : Program} {l : Launch} {e : Env} {s : State} {m : MethodId} {args : Array Value} {below : List Frame} {meth : Method} {c : Code} {A : Nat → Prop} {Q : State → Prop} {dC : Nat → ClassId} {dI : Nat → Nat → Nat} {k : Nat → ClassId} (hx : p.tables.exec = Jvm.exec) (hb : c.code = cX6_undo) (hml : c.maxLocals = 2) (hts : ∀ w ∈ wsX6_undo, w.before args s = true) (hown : s.vm.findClass RX6 = some m.cls) (hG : gK dC dI k A s) (hA : ∀ q : Nat, s.heap.size ≤ q → A q) (F : Nat) (n_t n_text n_readPage n_page n_trial n_book n_kept n_isKept n_seenStation n_seenOther n_seenWide n_seenWas n_sines n_at n_column n_gram n_right n_work : Nat) (v_thrown : Int32) (v_textSize : Int32) (v_place : Int32) (v_stations : Int32) (v_readStations : Int32) (v_doings : Int32) (v_seen : Int32) (v_seed : Int64) (v_wide : Int32) (v_up : Int64) (v_low : Int64) (r_page : Nat → Int32) (r_book : Nat → Int32) (o_r : Int32) (o_v_thrown : (Int32)) (o_v_doings : (Int32)) (o_r_page : (Nat → Int32)) (RET : ∀ (pc : Nat) (H : Heap) (locs : List Loc) (ls : Array Slot) (v : Int32) (q_v_thrown : Int32) (q_v_doings : Int32) (q_r_page : Nat → Int32), decode cX6_undo pc = .ok (.ireturn, 1) → some (v, q_v_thrown, q_v_doings, q_r_page) = some (o_r, o_v_thrown, o_v_doings, o_r_page) → va_P (dC, dI) vwCl (wd_e9dc6f k n_t n_text n_readPage n_page n_trial n_book n_kept n_isKept n_seenStation n_seenOther n_seenWide n_seenWas n_sines n_at n_column n_gram n_right n_work q_v_thrown v_textSize v_place v_stations v_readStations q_v_doings v_seen v_seed v_wide v_up v_low q_r_page r_book) H → va_D A (wd_e9dc6f k n_t n_text n_readPage n_page n_trial n_book n_kept n_isKept n_seenStation n_seenOther n_seenWide n_seenWas n_sines n_at n_column n_gram n_right n_work q_v_thrown v_textSize v_place v_stations v_readStations q_v_doings v_seen v_seed v_wide v_up v_low q_r_page r_book) → va_S A s.heap H locs → W p l e rm_X6_undo s m args below meth c H locs 0 0 Q (F0 m pc ls [.int v])) (H : Heap) (locs : List Loc) (ls : Array Slot) (hl : lv_has ls 2 [(0, .ref n_t)]) (hP : va_P (dC, dI) vwCl (wd_e9dc6f k n_t n_text n_readPage n_page n_trial n_book n_kept n_isKept n_seenStation n_seenOther n_seenWide n_seenWas n_sines n_at n_column n_gram n_right n_work v_thrown v_textSize v_place v_stations v_readStations v_doings v_seen v_seed v_wide v_up v_low r_page r_book) H) (hD : va_D A (wd_e9dc6f k n_t n_text n_readPage n_page n_trial n_book n_kept n_isKept n_seenStation n_seenOther n_seenWide n_seenWas n_sines n_at n_column n_gram n_right n_work v_thrown v_textSize v_place v_stations v_readStations v_doings v_seen v_seed v_wide v_up v_low r_page r_book)) (hS : va_S A s.heap H locs) (hm : f_X6_undo F v_thrown v_doings r_page r_book = some (o_r, o_v_thrown, o_v_doings, o_r_page)) : W p l e rm_X6_undo s m args below meth c H locs 0 0 Q (F0 m 0 ls []) := by
  have hinX6 : ∀ w ∈ u_ws RX6 TX6 28, w ∈ wsX6_undo := by decide +kernel
  have k0 := hts (.fieldLink RX6 100 "CaveLegsModel" "doings" "I") (by decide +kernel)
  have k1 := hts (.fieldLink RX6 20 "CaveLegsModel" "page" "[I") (by decide +kernel)
  have k2 := hts (.fieldLink RX6 26 "CaveLegsModel" "book" "[I") (by decide +kernel)
  have k3 := hts (.fieldLink RX6 67 "CaveLegsModel" "thrown" "I") (by decide +kernel)
  have L_27 : ∀ (n27 : Nat) (v_thrown : Int32) (v_doings : Int32) (r_page : Nat → Int32) (x1 : Int32) (H : Heap) (locs : List Loc) (ls : Array Slot), lv_has ls 2 [(0, .ref n_t), (1, .int x1)] → va_P (dC, dI) vwCl (wd_e9dc6f k n_t n_text n_readPage n_page n_trial n_book n_kept n_isKept n_seenStation n_seenOther n_seenWide n_seenWas n_sines n_at n_column n_gram n_right n_work v_thrown v_textSize v_place v_stations v_readStations v_doings v_seen v_seed v_wide v_up v_low r_page r_book) H → va_D A (wd_e9dc6f k n_t n_text n_readPage n_page n_trial n_book n_kept n_isKept n_seenStation n_seenOther n_seenWide n_seenWas n_sines n_at n_column n_gram n_right n_work v_thrown v_textSize v_place v_stations v_readStations v_doings v_seen v_seed v_wide v_up v_low r_page r_book) → va_S A s.heap H locs → f_X6_undo_L27 F r_book n27 v_thrown v_doings r_page x1 = some (o_r, o_v_thrown, o_v_doings, o_r_page) → W p l e rm_X6_undo s m args below meth c H locs 0 0 Q (F0 m 27 ls []) := by
    intro n27
    induction n27 with
    | zero =>
      intro v_thrown v_doings r_page x1 H locs ls hl hP hD hS hm
      exact non_some hm
    | succ n27 ih27 =>
      intro v_thrown v_doings r_page x1 H locs ls hl hP hD hS hm
      replace hm : f_X6_undo_B27 F r_book (f_X6_undo_L27 F r_book n27) v_thrown v_doings r_page x1 = some (o_r, o_v_thrown, o_v_doings, o_r_page) := hm
      unfold f_X6_undo_B27 at hm
      refine lv_iload_n hx hb dX6_undo_27 rfl (lv_at hl 1 rfl) ?_
      refine lv_bipush (v := (50 : Int32)) hx hb dX6_undo_28 (by decide) ?_
      refine lv_icmp_ge (tgt := 59) hx hb dX6_undo_30 (by decide) (fun c1 => ?_) (fun c1 => ?_)
      · replace hm := ifp c1 hm
        refine lv_aload_n hx hb dX6_undo_59 rfl (lv_at hl 0 rfl) ?_
        refine va_get (D := (dC, dI)) (ci := 6) (v := .int v_doings) (C := RX6) (T := TX6) (N := 28) hx hb hts hinX6 hown hG.1 hP 0 rfl rfl 10 (by decide) k0 (fun _ h9 => h9) rfl dX6_undo_60 ?_
        exact RET _ _ _ _ _ _ _ _ dX6_undo_63 hm hP hD hS
      · replace hm := ifn c1 hm
        refine lv_aload_n hx hb dX6_undo_33 rfl (lv_at hl 0 rfl) ?_
        refine va_get (D := (dC, dI)) (ci := 6) (v := .ref n_page) (C := RX6) (T := TX6) (N := 28) hx hb hts hinX6 hown hG.1 hP 0 rfl rfl 7 (by decide) k1 (fun _ h9 => h9) rfl dX6_undo_34 ?_
        refine lv_iload_n hx hb dX6_undo_37 rfl (lv_at hl 1 rfl) ?_
        refine lv_aload_n hx hb dX6_undo_38 rfl (lv_at hl 0 rfl) ?_
        refine va_get (D := (dC, dI)) (ci := 6) (v := .ref n_book) (C := RX6) (T := TX6) (N := 28) hx hb hts hinX6 hown hG.1 hP 0 rfl rfl 9 (by decide) k2 (fun _ h9 => h9) rfl dX6_undo_39 ?_
        refine lv_bipush (v := (50 : Int32)) hx hb dX6_undo_42 (by decide) ?_
        refine lv_aload_n hx hb dX6_undo_44 rfl (lv_at hl 0 rfl) ?_
        refine va_get (D := (dC, dI)) (ci := 6) (v := .int v_doings) (C := RX6) (T := TX6) (N := 28) hx hb hts hinX6 hown hG.1 hP 0 rfl rfl 10 (by decide) k0 (fun _ h9 => h9) rfl dX6_undo_45 ?_
        refine lv_imul hx hb dX6_undo_48 ?_
        refine lv_iload_n hx hb dX6_undo_49 rfl (lv_at hl 1 rfl) ?_
        refine lv_iadd hx hb dX6_undo_50 ?_
        obtain ⟨hi2, hm⟩ := chk_some hm
        refine va_iald hx hb hG.1 hP 2 0 rfl rfl hi2 dX6_undo_51 ?_
        refine lv_topi (fun t3 et3 => ?_)
        replace hm := (nmd_eq et3).trans hm
        obtain ⟨hi4, hm⟩ := chk_some hm
        refine va_iast hx hb hG.1 hP hD hS 1 0 rfl rfl hi4 dX6_undo_52 (fun H locs hP hD hS => ?_)
        replace hP : va_P (dC, dI) vwCl (wd_e9dc6f k n_t n_text n_readPage n_page n_trial n_book n_kept n_isKept n_seenStation n_seenOther n_seenWide n_seenWas n_sines n_at n_column n_gram n_right n_work v_thrown v_textSize v_place v_stations v_readStations v_doings v_seen v_seed v_wide v_up v_low (upd r_page (Int32.toNatClampNeg x1) t3) r_book) H := hP
        replace hD : va_D A (wd_e9dc6f k n_t n_text n_readPage n_page n_trial n_book n_kept n_isKept n_seenStation n_seenOther n_seenWide n_seenWas n_sines n_at n_column n_gram n_right n_work v_thrown v_textSize v_place v_stations v_readStations v_doings v_seen v_seed v_wide v_up v_low (upd r_page (Int32.toNatClampNeg x1) t3) r_book) := hD
        obtain ⟨t5, et5⟩ : ∃ y : Int32, y = x1 + (1 : Int32) := ⟨_, rfl⟩
        replace hm := (nmd_eq et5).trans hm
        refine lv_iinc (v := t5) (lv' := [(1, .int t5), (0, .ref n_t)]) hx hb dX6_undo_53 hl (k := 1) rfl (by rw [et5]; rfl) (by decide) rfl (fun ls hl => ?_)
        refine lv_goto (tgt := 27) hx hb dX6_undo_56 (by decide) ?_
        exact ih27 _ _ _ _ _ _ _ (lv_sub hl [1, 0] rfl) hP hD hS hm
  unfold f_X6_undo at hm
  refine lv_aload_n hx hb dX6_undo_0 rfl (lv_at hl 0 rfl) ?_
  refine lv_iconst (v := (0 : Int32)) hx hb dX6_undo_1 (by decide) ?_
  refine va_put (D := (dC, dI)) (ci := 6) (v := .int (0 : Int32)) (ty := .int) (C := RX6) (T := TX6) (N := 28) hx hb hts hinX6 tyX6 tyX6_ok nmX6 hown hG.1 hP hD hS 0 rfl rfl 0 (by decide) k3 (fun _ h9 => h9) rfl (by decide +kernel) rfl rfl (Nat.le_of_ble_eq_true rfl) dX6_undo_2 (fun H locs hP hD hS => ?_)
  replace hP : va_P (dC, dI) vwCl (wd_e9dc6f k n_t n_text n_readPage n_page n_trial n_book n_kept n_isKept n_seenStation n_seenOther n_seenWide n_seenWas n_sines n_at n_column n_gram n_right n_work (0 : Int32) v_textSize v_place v_stations v_readStations v_doings v_seen v_seed v_wide v_up v_low r_page r_book) H := hP
  replace hD : va_D A (wd_e9dc6f k n_t n_text n_readPage n_page n_trial n_book n_kept n_isKept n_seenStation n_seenOther n_seenWide n_seenWas n_sines n_at n_column n_gram n_right n_work (0 : Int32) v_textSize v_place v_stations v_readStations v_doings v_seen v_seed v_wide v_up v_low r_page r_book) := hD
  refine lv_aload_n hx hb dX6_undo_5 rfl (lv_at hl 0 rfl) ?_
  refine va_get (D := (dC, dI)) (ci := 6) (v := .int v_doings) (C := RX6) (T := TX6) (N := 28) hx hb hts hinX6 hown hG.1 hP 0 rfl rfl 10 (by decide) k0 (fun _ h9 => h9) rfl dX6_undo_6 ?_
  refine lv_if_ne (tgt := 15) hx hb dX6_undo_9 (by decide) (fun c6 => ?_) (fun c6 => ?_)
  · replace hm := ifn c6 hm
    refine lv_aload_n hx hb dX6_undo_15 rfl (lv_at hl 0 rfl) ?_
    refine lv_dup hx hb dX6_undo_16 rfl ?_
    refine va_get (D := (dC, dI)) (ci := 6) (v := .int v_doings) (C := RX6) (T := TX6) (N := 28) hx hb hts hinX6 hown hG.1 hP 0 rfl rfl 10 (by decide) k0 (fun _ h9 => h9) rfl dX6_undo_17 ?_
    refine lv_iconst (v := (1 : Int32)) hx hb dX6_undo_20 (by decide) ?_
    refine lv_isub hx hb dX6_undo_21 ?_
    refine lv_topi (fun t7 et7 => ?_)
    replace hm := (nmd_eq et7).trans hm
    refine va_put (D := (dC, dI)) (ci := 6) (v := .int t7) (ty := .int) (C := RX6) (T := TX6) (N := 28) hx hb hts hinX6 tyX6 tyX6_ok nmX6 hown hG.1 hP hD hS 0 rfl rfl 10 (by decide) k0 (fun _ h9 => h9) rfl (by decide +kernel) rfl rfl (Nat.le_of_ble_eq_true rfl) dX6_undo_22 (fun H locs hP hD hS => ?_)
    replace hP : va_P (dC, dI) vwCl (wd_e9dc6f k n_t n_text n_readPage n_page n_trial n_book n_kept n_isKept n_seenStation n_seenOther n_seenWide n_seenWas n_sines n_at n_column n_gram n_right n_work (0 : Int32) v_textSize v_place v_stations v_readStations t7 v_seen v_seed v_wide v_up v_low r_page r_book) H := hP
    replace hD : va_D A (wd_e9dc6f k n_t n_text n_readPage n_page n_trial n_book n_kept n_isKept n_seenStation n_seenOther n_seenWide n_seenWas n_sines n_at n_column n_gram n_right n_work (0 : Int32) v_textSize v_place v_stations v_readStations t7 v_seen v_seed v_wide v_up v_low r_page r_book) := hD
    refine lv_iconst (v := (0 : Int32)) hx hb dX6_undo_25 (by decide) ?_
    refine lv_istore_n (lv' := [(1, .int (0 : Int32)), (0, .ref n_t)]) hx hb dX6_undo_26 rfl hl (by decide) rfl (fun ls hl => ?_)
    exact L_27 F _ _ _ _ _ _ _ (lv_sub hl [1, 0] rfl) hP hD hS hm
  · replace hm := ifp c6 hm
    refine lv_bipush (v := (-3 : Int32)) hx hb dX6_undo_12 (by decide) ?_
    exact RET _ _ _ _ _ _ _ _ dX6_undo_14 hm hP hD hS
set_option maxRecDepth 100000 in
theorem m_X6_undo (l : Launch) (dC : Nat → ClassId) (dI : Nat → Nat → Nat) (k : Nat → ClassId) (F : Nat) (sz : Nat) (n_t n_text n_readPage n_page n_trial n_book n_kept n_isKept n_seenStation n_seenOther n_seenWide n_seenWas n_sines n_at n_column n_gram n_right n_work : Nat) (v_thrown : Int32) (v_textSize : Int32) (v_place : Int32) (v_stations : Int32) (v_readStations : Int32) (v_doings : Int32) (v_seen : Int32) (v_seed : Int64) (v_wide : Int32) (v_up : Int64) (v_low : Int64) (r_page : Nat → Int32) (r_book : Nat → Int32) {o_r : Int32} {o_v_thrown : (Int32)} {o_v_doings : (Int32)} {o_r_page : (Nat → Int32)} (hm : f_X6_undo F v_thrown v_doings r_page r_book = some (o_r, o_v_thrown, o_v_doings, o_r_page)) : Met l yX6_undo wsX6_undo rm_X6_undo (gPre dC dI k [.ref n_t] sz (wd_e9dc6f k n_t n_text n_readPage n_page n_trial n_book n_kept n_isKept n_seenStation n_seenOther n_seenWide n_seenWas n_sines n_at n_column n_gram n_right n_work v_thrown v_textSize v_place v_stations v_readStations v_doings v_seen v_seed v_wide v_up v_low r_page r_book)) (gQI dC dI (va_A (wd_e9dc6f k n_t n_text n_readPage n_page n_trial n_book n_kept n_isKept n_seenStation n_seenOther n_seenWide n_seenWas n_sines n_at n_column n_gram n_right n_work v_thrown v_textSize v_place v_stations v_readStations v_doings v_seen v_seed v_wide v_up v_low r_page r_book) sz) o_r (wd_e9dc6f k n_t n_text n_readPage n_page n_trial n_book n_kept n_isKept n_seenStation n_seenOther n_seenWide n_seenWas n_sines n_at n_column n_gram n_right n_work o_v_thrown v_textSize v_place v_stations v_readStations o_v_doings v_seen v_seed v_wide v_up v_low o_r_page r_book)) 0 0 (va_A (wd_e9dc6f k n_t n_text n_readPage n_page n_trial n_book n_kept n_isKept n_seenStation n_seenOther n_seenWide n_seenWas n_sines n_at n_column n_gram n_right n_work v_thrown v_textSize v_place v_stations v_readStations v_doings v_seen v_seed v_wide v_up v_low r_page r_book) sz) := by
  refine g_entry (cc := cX6_undo) (maxL := 2) (ret := (some .int)) (lv := [(0, .ref n_t)]) (by decide +kernel) rfl (Nat.le_of_ble_eq_true rfl) rfl (fun p e s m below meth c ls hx hb hr hml hts hown hlk hnm hsz hG hA hP hD hS hl => ?_)
  exact k_X6_undo hx hb hml hts hown hG hA F n_t n_text n_readPage n_page n_trial n_book n_kept n_isKept n_seenStation n_seenOther n_seenWide n_seenWas n_sines n_at n_column n_gram n_right n_work v_thrown v_textSize v_place v_stations v_readStations v_doings v_seen v_seed v_wide v_up v_low r_page r_book o_r o_v_thrown o_v_doings o_r_page (fun pc H locs ls v q_v_thrown q_v_doings q_r_page hd ho hP hD hS => by cases ho; exact g_ireti hx hb hr hlk hP hD hS hd) s.heap [] ls hl hP hD hS hm
end
section
set_option maxHeartbeats 4000000 in
set_option maxRecDepth 100000 in
theorem k_X6_reached {p : Program} {l : Launch} {e : Env} {s : State} {m : MethodId} {args : Array Value} {below : List Frame} {meth : Method} {c : Code} {A : Nat → Prop} {Q : State → Prop} {dC : Nat → ClassId} {dI : Nat → Nat → Nat} {k : Nat → ClassId} (hx : p.tables.exec = Jvm.exec) (hb : c.code = cX6_reached) (hml : c.maxLocals = 7) (hts : ∀ w ∈ wsX6_reached, w.before args s = true) (hown : s.vm.findClass RX6 = some m.cls) (hG : gK dC dI k A s) (hA : ∀ q : Nat, s.heap.size ≤ q → A q) (F : Nat) (n_t n_p1 n_text n_readPage n_page n_trial n_book n_kept n_isKept n_seenStation n_seenOther n_seenWide n_seenWas n_sines n_at n_column n_gram n_right n_work : Nat) (v_thrown : Int32) (v_textSize : Int32) (v_place : Int32) (v_stations : Int32) (v_readStations : Int32) (v_doings : Int32) (v_seen : Int32) (v_seed : Int64) (v_wide : Int32) (v_up : Int64) (v_low : Int64) (r_p1 : Nat → Int32) (x2 : Int32) (x3 : Int32) (o_r : Int32) (RET : ∀ (pc : Nat) (H : Heap) (locs : List Loc) (ls : Array Slot) (v : Int32), decode cX6_reached pc = .ok (.ireturn, 1) → some v = some o_r → va_P (dC, dI) vwCl (wd_b39fcd k n_t n_p1 n_text n_readPage n_page n_trial n_book n_kept n_isKept n_seenStation n_seenOther n_seenWide n_seenWas n_sines n_at n_column n_gram n_right n_work v_thrown v_textSize v_place v_stations v_readStations v_doings v_seen v_seed v_wide v_up v_low r_p1) H → va_D A (wd_b39fcd k n_t n_p1 n_text n_readPage n_page n_trial n_book n_kept n_isKept n_seenStation n_seenOther n_seenWide n_seenWas n_sines n_at n_column n_gram n_right n_work v_thrown v_textSize v_place v_stations v_readStations v_doings v_seen v_seed v_wide v_up v_low r_p1) → va_S A s.heap H locs → W p l e rm_X6_reached s m args below meth c H locs 0 0 Q (F0 m pc ls [.int v])) (H : Heap) (locs : List Loc) (ls : Array Slot) (hl : lv_has ls 7 [(0, .ref n_t), (1, .ref n_p1), (2, .int x2), (3, .int x3)]) (hP : va_P (dC, dI) vwCl (wd_b39fcd k n_t n_p1 n_text n_readPage n_page n_trial n_book n_kept n_isKept n_seenStation n_seenOther n_seenWide n_seenWas n_sines n_at n_column n_gram n_right n_work v_thrown v_textSize v_place v_stations v_readStations v_doings v_seen v_seed v_wide v_up v_low r_p1) H) (hD : va_D A (wd_b39fcd k n_t n_p1 n_text n_readPage n_page n_trial n_book n_kept n_isKept n_seenStation n_seenOther n_seenWide n_seenWas n_sines n_at n_column n_gram n_right n_work v_thrown v_textSize v_place v_stations v_readStations v_doings v_seen v_seed v_wide v_up v_low r_p1)) (hS : va_S A s.heap H locs) (hm : f_X6_reached F x2 x3 r_p1 = some o_r) : W p l e rm_X6_reached s m args below meth c H locs 0 0 Q (F0 m 0 ls []) := by
  have L_6 : ∀ (n6 : Nat) (x2 : Int32) (x3 : Int32) (x4 : Int32) (x5 : Int32) (H : Heap) (locs : List Loc) (ls : Array Slot), lv_has ls 7 [(1, .ref n_p1), (2, .int x2), (3, .int x3), (4, .int x4), (5, .int x5)] → va_P (dC, dI) vwCl (wd_b39fcd k n_t n_p1 n_text n_readPage n_page n_trial n_book n_kept n_isKept n_seenStation n_seenOther n_seenWide n_seenWas n_sines n_at n_column n_gram n_right n_work v_thrown v_textSize v_place v_stations v_readStations v_doings v_seen v_seed v_wide v_up v_low r_p1) H → va_D A (wd_b39fcd k n_t n_p1 n_text n_readPage n_page n_trial n_book n_kept n_isKept n_seenStation n_seenOther n_seenWide n_seenWas n_sines n_at n_column n_gram n_right n_work v_thrown v_textSize v_place v_stations v_readStations v_doings v_seen v_seed v_wide v_up v_low r_p1) → va_S A s.heap H locs → f_X6_reached_L6 F r_p1 n6 x2 x3 x4 x5 = some o_r → W p l e rm_X6_reached s m args below meth c H locs 0 0 Q (F0 m 6 ls []) := by
    intro n6
    induction n6 with
    | zero =>
      intro x2 x3 x4 x5 H locs ls hl hP hD hS hm
      exact non_some hm
    | succ n6 ih6 =>
      have L_16 : ∀ (n16 : Nat) (x2 : Int32) (x3 : Int32) (x4 : Int32) (x5 : Int32) (x6 : Int32) (H : Heap) (locs : List Loc) (ls : Array Slot), lv_has ls 7 [(1, .ref n_p1), (2, .int x2), (3, .int x3), (4, .int x4), (5, .int x5), (6, .int x6)] → va_P (dC, dI) vwCl (wd_b39fcd k n_t n_p1 n_text n_readPage n_page n_trial n_book n_kept n_isKept n_seenStation n_seenOther n_seenWide n_seenWas n_sines n_at n_column n_gram n_right n_work v_thrown v_textSize v_place v_stations v_readStations v_doings v_seen v_seed v_wide v_up v_low r_p1) H → va_D A (wd_b39fcd k n_t n_p1 n_text n_readPage n_page n_trial n_book n_kept n_isKept n_seenStation n_seenOther n_seenWide n_seenWas n_sines n_at n_column n_gram n_right n_work v_thrown v_textSize v_place v_stations v_readStations v_doings v_seen v_seed v_wide v_up v_low r_p1) → va_S A s.heap H locs → f_X6_reached_L16 F r_p1 (f_X6_reached_L6 F r_p1 n6) n16 x2 x3 x4 x5 x6 = some o_r → W p l e rm_X6_reached s m args below meth c H locs 0 0 Q (F0 m 16 ls []) := by
        intro n16
        induction n16 with
        | zero =>
          intro x2 x3 x4 x5 x6 H locs ls hl hP hD hS hm
          exact non_some hm
        | succ n16 ih16 =>
          have J_98 : ∀ (x2 : Int32) (x3 : Int32) (x4 : Int32) (x5 : Int32) (x6 : Int32) (H : Heap) (locs : List Loc) (ls : Array Slot), lv_has ls 7 [(1, .ref n_p1), (2, .int x2), (3, .int x3), (4, .int x4), (5, .int x5), (6, .int x6)] → va_P (dC, dI) vwCl (wd_b39fcd k n_t n_p1 n_text n_readPage n_page n_trial n_book n_kept n_isKept n_seenStation n_seenOther n_seenWide n_seenWas n_sines n_at n_column n_gram n_right n_work v_thrown v_textSize v_place v_stations v_readStations v_doings v_seen v_seed v_wide v_up v_low r_p1) H → va_D A (wd_b39fcd k n_t n_p1 n_text n_readPage n_page n_trial n_book n_kept n_isKept n_seenStation n_seenOther n_seenWide n_seenWas n_sines n_at n_column n_gram n_right n_work v_thrown v_textSize v_place v_stations v_readStations v_doings v_seen v_seed v_wide v_up v_low r_p1) → va_S A s.heap H locs → f_X6_reached_J98 F r_p1 (f_X6_reached_L6 F r_p1 n6) (f_X6_reached_L16 F r_p1 (f_X6_reached_L6 F r_p1 n6) n16) x2 x3 x4 x5 x6 = some o_r → W p l e rm_X6_reached s m args below meth c H locs 0 0 Q (F0 m 98 ls []) := by
            intro x2 x3 x4 x5 x6 H locs ls hl hP hD hS hm
            unfold f_X6_reached_J98 at hm
            obtain ⟨t1, et1⟩ : ∃ y : Int32, y = x6 + (1 : Int32) := ⟨_, rfl⟩
            replace hm := (nmd_eq et1).trans hm
            refine lv_iinc (v := t1) (lv' := [(6, .int t1), (1, .ref n_p1), (2, .int x2), (3, .int x3), (4, .int x4), (5, .int x5)]) hx hb dX6_reached_98 hl (k := 5) rfl (by rw [et1]; rfl) (by decide) rfl (fun ls hl => ?_)
            refine lv_goto (tgt := 16) hx hb dX6_reached_101 (by decide) ?_
            exact ih16 _ _ _ _ _ _ _ _ (lv_sub hl [1, 2, 3, 4, 5, 0] rfl) hP hD hS hm
          have J_74 : ∀ (x2 : Int32) (x3 : Int32) (x4 : Int32) (x5 : Int32) (x6 : Int32) (H : Heap) (locs : List Loc) (ls : Array Slot), lv_has ls 7 [(1, .ref n_p1), (2, .int x2), (3, .int x3), (4, .int x4), (5, .int x5), (6, .int x6)] → va_P (dC, dI) vwCl (wd_b39fcd k n_t n_p1 n_text n_readPage n_page n_trial n_book n_kept n_isKept n_seenStation n_seenOther n_seenWide n_seenWas n_sines n_at n_column n_gram n_right n_work v_thrown v_textSize v_place v_stations v_readStations v_doings v_seen v_seed v_wide v_up v_low r_p1) H → va_D A (wd_b39fcd k n_t n_p1 n_text n_readPage n_page n_trial n_book n_kept n_isKept n_seenStation n_seenOther n_seenWide n_seenWas n_sines n_at n_column n_gram n_right n_work v_thrown v_textSize v_place v_stations v_readStations v_doings v_seen v_seed v_wide v_up v_low r_p1) → va_S A s.heap H locs → f_X6_reached_J74 F r_p1 (f_X6_reached_L6 F r_p1 n6) (f_X6_reached_L16 F r_p1 (f_X6_reached_L6 F r_p1 n6) n16) x2 x3 x4 x5 x6 = some o_r → W p l e rm_X6_reached s m args below meth c H locs 0 0 Q (F0 m 74 ls []) := by
            intro x2 x3 x4 x5 x6 H locs ls hl hP hD hS hm
            unfold f_X6_reached_J74 at hm
            refine lv_iload hx hb dX6_reached_74 (lv_at hl 3 rfl) ?_
            refine lv_iconst (v := (1 : Int32)) hx hb dX6_reached_76 (by decide) ?_
            refine lv_aload_n hx hb dX6_reached_77 rfl (lv_at hl 0 rfl) ?_
            refine lv_iload hx hb dX6_reached_78 (lv_at hl 5 rfl) ?_
            refine lv_iconst (v := (4 : Int32)) hx hb dX6_reached_80 (by decide) ?_
            obtain ⟨r2, e3, hm⟩ := bnd1_some hm
            refine g_calli (w2 := (wd_b39fcd k n_t n_p1 n_text n_readPage n_page n_trial n_book n_kept n_isKept n_seenStation n_seenOther n_seenWide n_seenWas n_sines n_at n_column n_gram n_right n_work v_thrown v_textSize v_place v_stations v_readStations v_doings v_seen v_seed v_wide v_up v_low r_p1)) (va_runS (As := [.ref n_p1, .int x6, .int (4 : Int32)]) (rest := [.int (1 : Int32), .int x4]) ⟨hx, hb, hml, hown, hts⟩ (m_X6_of l dC dI k H.size n_p1 r_p1 x6 (4 : Int32) e3) (va_cwS 3 hts gX6_reached_X6_of rfl rfl rfl (by decide +kernel) ⟨Nat.le_of_ble_eq_true rfl, Nat.le_of_ble_eq_true rfl⟩) (g_preS hG hP hD hS hA [1] rfl (by decide)) rfl rfl hl.1 rfl (lv_room (Nat.le_of_ble_eq_true rfl)) dX6_reached_81 ⟨Nat.le_of_ble_eq_true rfl, Nat.le_of_ble_eq_true rfl⟩) hP hD hS hA [1] [0] [0, 1] rfl rfl (by decide) (by decide) rfl (by decide) (fun H locs hP hD hS => ?_)
            refine g_ishl hx hb dX6_reached_84 ?_
            refine lv_iconst (v := (1 : Int32)) hx hb dX6_reached_85 (by decide) ?_
            refine lv_aload_n hx hb dX6_reached_86 rfl (lv_at hl 0 rfl) ?_
            refine lv_iload hx hb dX6_reached_87 (lv_at hl 5 rfl) ?_
            refine lv_iconst (v := (5 : Int32)) hx hb dX6_reached_89 (by decide) ?_
            obtain ⟨r4, e5, hm⟩ := bnd1_some hm
            refine g_calli (w2 := (wd_b39fcd k n_t n_p1 n_text n_readPage n_page n_trial n_book n_kept n_isKept n_seenStation n_seenOther n_seenWide n_seenWas n_sines n_at n_column n_gram n_right n_work v_thrown v_textSize v_place v_stations v_readStations v_doings v_seen v_seed v_wide v_up v_low r_p1)) (va_runS (As := [.ref n_p1, .int x6, .int (5 : Int32)]) (rest := [.int (1 : Int32), .int (shlI (1 : Int32) r2), .int x4]) ⟨hx, hb, hml, hown, hts⟩ (m_X6_of l dC dI k H.size n_p1 r_p1 x6 (5 : Int32) e5) (va_cwS 3 hts gX6_reached_X6_of rfl rfl rfl (by decide +kernel) ⟨Nat.le_of_ble_eq_true rfl, Nat.le_of_ble_eq_true rfl⟩) (g_preS hG hP hD hS hA [1] rfl (by decide)) rfl rfl hl.1 rfl (lv_room (Nat.le_of_ble_eq_true rfl)) dX6_reached_90 ⟨Nat.le_of_ble_eq_true rfl, Nat.le_of_ble_eq_true rfl⟩) hP hD hS hA [1] [0] [0, 1] rfl rfl (by decide) (by decide) rfl (by decide) (fun H locs hP hD hS => ?_)
            refine g_ishl hx hb dX6_reached_93 ?_
            refine lv_ior hx hb dX6_reached_94 ?_
            refine lv_ior hx hb dX6_reached_95 ?_
            refine lv_topi (fun t6 et6 => ?_)
            replace hm := (nmd_eq et6).trans hm
            refine lv_istore (lv' := [(4, .int t6), (1, .ref n_p1), (2, .int x2), (3, .int x3), (5, .int x5), (6, .int x6)]) hx hb dX6_reached_96 hl (by decide) rfl (fun ls hl => ?_)
            exact J_98 _ _ _ _ _ _ _ _ (lv_sub hl [1, 2, 3, 0, 4, 5] rfl) hP hD hS hm
          intro x2 x3 x4 x5 x6 H locs ls hl hP hD hS hm
          replace hm : f_X6_reached_B16 F r_p1 (f_X6_reached_L6 F r_p1 n6) (f_X6_reached_L16 F r_p1 (f_X6_reached_L6 F r_p1 n6) n16) x2 x3 x4 x5 x6 = some o_r := hm
          unfold f_X6_reached_B16 at hm
          refine lv_iload hx hb dX6_reached_16 (lv_at hl 5 rfl) ?_
          refine lv_aload_n hx hb dX6_reached_18 rfl (lv_at hl 0 rfl) ?_
          refine lv_iconst (v := (0 : Int32)) hx hb dX6_reached_19 (by decide) ?_
          obtain ⟨hi7, hm⟩ := chk_some hm
          refine va_iald hx hb hG.1 hP 1 0 rfl rfl hi7 dX6_reached_20 ?_
          refine lv_icmp_ge (tgt := 104) hx hb dX6_reached_21 (by decide) (fun c8 => ?_) (fun c8 => ?_)
          · replace hm := ifp c8 hm
            obtain ⟨t9, et9⟩ : ∃ y : Int32, y = x5 + (1 : Int32) := ⟨_, rfl⟩
            replace hm := (nmd_eq et9).trans hm
            refine lv_iinc (v := t9) (lv' := [(5, .int t9), (1, .ref n_p1), (2, .int x2), (3, .int x3), (4, .int x4), (6, .int x6)]) hx hb dX6_reached_104 hl (k := 4) rfl (by rw [et9]; rfl) (by decide) rfl (fun ls hl => ?_)
            refine lv_goto (tgt := 6) hx hb dX6_reached_107 (by decide) ?_
            exact ih6 _ _ _ _ _ _ _ (lv_sub hl [1, 2, 3, 4, 0] rfl) hP hD hS hm
          · replace hm := ifn c8 hm
            refine lv_iload_n hx hb dX6_reached_24 rfl (lv_at hl 1 rfl) ?_
            refine lv_iload hx hb dX6_reached_25 (lv_at hl 5 rfl) ?_
            obtain ⟨r10, e11, hm⟩ := bnd1_some hm
            refine g_calli (w2 := (wd_b39fcd k n_t n_p1 n_text n_readPage n_page n_trial n_book n_kept n_isKept n_seenStation n_seenOther n_seenWide n_seenWas n_sines n_at n_column n_gram n_right n_work v_thrown v_textSize v_place v_stations v_readStations v_doings v_seen v_seed v_wide v_up v_low r_p1)) (va_runS (As := [.int x2, .int x6]) (rest := []) ⟨hx, hb, hml, hown, hts⟩ (m_X6_has l dC dI k H.size  x2 x6 e11) (va_cwS 2 hts gX6_reached_X6_has rfl rfl rfl (by decide +kernel) ⟨Nat.le_of_ble_eq_true rfl, Nat.le_of_ble_eq_true rfl⟩) (g_preS hG hP hD hS hA [] rfl (by decide)) rfl rfl hl.1 rfl (lv_room (Nat.le_of_ble_eq_true rfl)) dX6_reached_27 ⟨Nat.le_of_ble_eq_true rfl, Nat.le_of_ble_eq_true rfl⟩) hP hD hS hA [] [0, 1] [0, 1] rfl rfl (by decide) (by decide) rfl (by decide) (fun H locs hP hD hS => ?_)
            refine lv_if_eq (tgt := 98) hx hb dX6_reached_30 (by decide) (fun c12 => ?_) (fun c12 => ?_)
            · replace hm := ifp c12 hm
              exact J_98 _ _ _ _ _ _ _ _ (lv_sub hl [0, 1, 2, 3, 4, 5] rfl) hP hD hS hm
            · replace hm := ifn c12 hm
              refine lv_aload_n hx hb dX6_reached_33 rfl (lv_at hl 0 rfl) ?_
              refine lv_iload hx hb dX6_reached_34 (lv_at hl 5 rfl) ?_
              refine lv_iconst (v := (3 : Int32)) hx hb dX6_reached_36 (by decide) ?_
              obtain ⟨r13, e14, hm⟩ := bnd1_some hm
              refine g_calli (w2 := (wd_b39fcd k n_t n_p1 n_text n_readPage n_page n_trial n_book n_kept n_isKept n_seenStation n_seenOther n_seenWide n_seenWas n_sines n_at n_column n_gram n_right n_work v_thrown v_textSize v_place v_stations v_readStations v_doings v_seen v_seed v_wide v_up v_low r_p1)) (va_runS (As := [.ref n_p1, .int x6, .int (3 : Int32)]) (rest := []) ⟨hx, hb, hml, hown, hts⟩ (m_X6_of l dC dI k H.size n_p1 r_p1 x6 (3 : Int32) e14) (va_cwS 3 hts gX6_reached_X6_of rfl rfl rfl (by decide +kernel) ⟨Nat.le_of_ble_eq_true rfl, Nat.le_of_ble_eq_true rfl⟩) (g_preS hG hP hD hS hA [1] rfl (by decide)) rfl rfl hl.1 rfl (lv_room (Nat.le_of_ble_eq_true rfl)) dX6_reached_37 ⟨Nat.le_of_ble_eq_true rfl, Nat.le_of_ble_eq_true rfl⟩) hP hD hS hA [1] [0] [0, 1] rfl rfl (by decide) (by decide) rfl (by decide) (fun H locs hP hD hS => ?_)
              refine lv_iload_n hx hb dX6_reached_40 rfl (lv_at hl 2 rfl) ?_
              refine lv_icmp_lt (tgt := 98) hx hb dX6_reached_41 (by decide) (fun c15 => ?_) (fun c15 => ?_)
              · replace hm := ifp c15 hm
                exact J_98 _ _ _ _ _ _ _ _ (lv_sub hl [0, 1, 2, 3, 4, 5] rfl) hP hD hS hm
              · replace hm := ifn c15 hm
                refine lv_iload hx hb dX6_reached_44 (lv_at hl 3 rfl) ?_
                refine lv_aload_n hx hb dX6_reached_46 rfl (lv_at hl 0 rfl) ?_
                refine lv_iload hx hb dX6_reached_47 (lv_at hl 5 rfl) ?_
                refine lv_iconst (v := (4 : Int32)) hx hb dX6_reached_49 (by decide) ?_
                obtain ⟨r16, e17, hm⟩ := bnd1_some hm
                refine g_calli (w2 := (wd_b39fcd k n_t n_p1 n_text n_readPage n_page n_trial n_book n_kept n_isKept n_seenStation n_seenOther n_seenWide n_seenWas n_sines n_at n_column n_gram n_right n_work v_thrown v_textSize v_place v_stations v_readStations v_doings v_seen v_seed v_wide v_up v_low r_p1)) (va_runS (As := [.ref n_p1, .int x6, .int (4 : Int32)]) (rest := [.int x4]) ⟨hx, hb, hml, hown, hts⟩ (m_X6_of l dC dI k H.size n_p1 r_p1 x6 (4 : Int32) e17) (va_cwS 3 hts gX6_reached_X6_of rfl rfl rfl (by decide +kernel) ⟨Nat.le_of_ble_eq_true rfl, Nat.le_of_ble_eq_true rfl⟩) (g_preS hG hP hD hS hA [1] rfl (by decide)) rfl rfl hl.1 rfl (lv_room (Nat.le_of_ble_eq_true rfl)) dX6_reached_50 ⟨Nat.le_of_ble_eq_true rfl, Nat.le_of_ble_eq_true rfl⟩) hP hD hS hA [1] [0] [0, 1] rfl rfl (by decide) (by decide) rfl (by decide) (fun H locs hP hD hS => ?_)
                obtain ⟨r18, e19, hm⟩ := bnd1_some hm
                refine g_calli (w2 := (wd_b39fcd k n_t n_p1 n_text n_readPage n_page n_trial n_book n_kept n_isKept n_seenStation n_seenOther n_seenWide n_seenWas n_sines n_at n_column n_gram n_right n_work v_thrown v_textSize v_place v_stations v_readStations v_doings v_seen v_seed v_wide v_up v_low r_p1)) (va_runS (As := [.int x4, .int r16]) (rest := []) ⟨hx, hb, hml, hown, hts⟩ (m_X6_has l dC dI k H.size  x4 r16 e19) (va_cwS 2 hts gX6_reached_X6_has rfl rfl rfl (by decide +kernel) ⟨Nat.le_of_ble_eq_true rfl, Nat.le_of_ble_eq_true rfl⟩) (g_preS hG hP hD hS hA [] rfl (by decide)) rfl rfl hl.1 rfl (lv_room (Nat.le_of_ble_eq_true rfl)) dX6_reached_53 ⟨Nat.le_of_ble_eq_true rfl, Nat.le_of_ble_eq_true rfl⟩) hP hD hS hA [] [0, 1] [0, 1] rfl rfl (by decide) (by decide) rfl (by decide) (fun H locs hP hD hS => ?_)
                refine lv_if_ne (tgt := 74) hx hb dX6_reached_56 (by decide) (fun c20 => ?_) (fun c20 => ?_)
                · replace hm := ifn c20 hm
                  exact J_74 _ _ _ _ _ _ _ _ (lv_sub hl [0, 1, 2, 3, 4, 5] rfl) hP hD hS hm
                · replace hm := ifp c20 hm
                  refine lv_iload hx hb dX6_reached_59 (lv_at hl 3 rfl) ?_
                  refine lv_aload_n hx hb dX6_reached_61 rfl (lv_at hl 0 rfl) ?_
                  refine lv_iload hx hb dX6_reached_62 (lv_at hl 5 rfl) ?_
                  refine lv_iconst (v := (5 : Int32)) hx hb dX6_reached_64 (by decide) ?_
                  obtain ⟨r21, e22, hm⟩ := bnd1_some hm
                  refine g_calli (w2 := (wd_b39fcd k n_t n_p1 n_text n_readPage n_page n_trial n_book n_kept n_isKept n_seenStation n_seenOther n_seenWide n_seenWas n_sines n_at n_column n_gram n_right n_work v_thrown v_textSize v_place v_stations v_readStations v_doings v_seen v_seed v_wide v_up v_low r_p1)) (va_runS (As := [.ref n_p1, .int x6, .int (5 : Int32)]) (rest := [.int x4]) ⟨hx, hb, hml, hown, hts⟩ (m_X6_of l dC dI k H.size n_p1 r_p1 x6 (5 : Int32) e22) (va_cwS 3 hts gX6_reached_X6_of rfl rfl rfl (by decide +kernel) ⟨Nat.le_of_ble_eq_true rfl, Nat.le_of_ble_eq_true rfl⟩) (g_preS hG hP hD hS hA [1] rfl (by decide)) rfl rfl hl.1 rfl (lv_room (Nat.le_of_ble_eq_true rfl)) dX6_reached_65 ⟨Nat.le_of_ble_eq_true rfl, Nat.le_of_ble_eq_true rfl⟩) hP hD hS hA [1] [0] [0, 1] rfl rfl (by decide) (by decide) rfl (by decide) (fun H locs hP hD hS => ?_)
                  obtain ⟨r23, e24, hm⟩ := bnd1_some hm
                  refine g_calli (w2 := (wd_b39fcd k n_t n_p1 n_text n_readPage n_page n_trial n_book n_kept n_isKept n_seenStation n_seenOther n_seenWide n_seenWas n_sines n_at n_column n_gram n_right n_work v_thrown v_textSize v_place v_stations v_readStations v_doings v_seen v_seed v_wide v_up v_low r_p1)) (va_runS (As := [.int x4, .int r21]) (rest := []) ⟨hx, hb, hml, hown, hts⟩ (m_X6_has l dC dI k H.size  x4 r21 e24) (va_cwS 2 hts gX6_reached_X6_has rfl rfl rfl (by decide +kernel) ⟨Nat.le_of_ble_eq_true rfl, Nat.le_of_ble_eq_true rfl⟩) (g_preS hG hP hD hS hA [] rfl (by decide)) rfl rfl hl.1 rfl (lv_room (Nat.le_of_ble_eq_true rfl)) dX6_reached_68 ⟨Nat.le_of_ble_eq_true rfl, Nat.le_of_ble_eq_true rfl⟩) hP hD hS hA [] [0, 1] [0, 1] rfl rfl (by decide) (by decide) rfl (by decide) (fun H locs hP hD hS => ?_)
                  refine lv_if_eq (tgt := 98) hx hb dX6_reached_71 (by decide) (fun c25 => ?_) (fun c25 => ?_)
                  · replace hm := ifp c25 hm
                    exact J_98 _ _ _ _ _ _ _ _ (lv_sub hl [0, 1, 2, 3, 4, 5] rfl) hP hD hS hm
                  · replace hm := ifn c25 hm
                    exact J_74 _ _ _ _ _ _ _ _ (lv_sub hl [0, 1, 2, 3, 4, 5] rfl) hP hD hS hm
      intro x2 x3 x4 x5 H locs ls hl hP hD hS hm
      replace hm : f_X6_reached_B6 F r_p1 (f_X6_reached_L6 F r_p1 n6) x2 x3 x4 x5 = some o_r := hm
      unfold f_X6_reached_B6 at hm
      refine lv_iload hx hb dX6_reached_6 (lv_at hl 4 rfl) ?_
      refine lv_bipush (v := (6 : Int32)) hx hb dX6_reached_8 (by decide) ?_
      refine lv_icmp_ge (tgt := 110) hx hb dX6_reached_10 (by decide) (fun c26 => ?_) (fun c26 => ?_)
      · replace hm := ifp c26 hm
        refine lv_iload hx hb dX6_reached_110 (lv_at hl 3 rfl) ?_
        exact RET _ _ _ _ _ dX6_reached_112 hm hP hD hS
      · replace hm := ifn c26 hm
        refine lv_iconst (v := (0 : Int32)) hx hb dX6_reached_13 (by decide) ?_
        refine lv_istore (lv' := [(6, .int (0 : Int32)), (1, .ref n_p1), (2, .int x2), (3, .int x3), (4, .int x4), (5, .int x5)]) hx hb dX6_reached_14 hl (by decide) rfl (fun ls hl => ?_)
        exact L_16 F _ _ _ _ _ _ _ _ (lv_sub hl [1, 2, 3, 4, 5, 0] rfl) hP hD hS hm
  unfold f_X6_reached at hm
  refine lv_iconst (v := (1 : Int32)) hx hb dX6_reached_0 (by decide) ?_
  refine lv_istore (lv' := [(4, .int (1 : Int32)), (0, .ref n_t), (1, .ref n_p1), (2, .int x2), (3, .int x3)]) hx hb dX6_reached_1 hl (by decide) rfl (fun ls hl => ?_)
  refine lv_iconst (v := (0 : Int32)) hx hb dX6_reached_3 (by decide) ?_
  refine lv_istore (lv' := [(5, .int (0 : Int32)), (4, .int (1 : Int32)), (0, .ref n_t), (1, .ref n_p1), (2, .int x2), (3, .int x3)]) hx hb dX6_reached_4 hl (by decide) rfl (fun ls hl => ?_)
  exact L_6 F _ _ _ _ _ _ _ (lv_sub hl [3, 4, 5, 1, 0] rfl) hP hD hS hm
set_option maxRecDepth 100000 in
theorem m_X6_reached (l : Launch) (dC : Nat → ClassId) (dI : Nat → Nat → Nat) (k : Nat → ClassId) (F : Nat) (sz : Nat) (n_t n_p1 n_text n_readPage n_page n_trial n_book n_kept n_isKept n_seenStation n_seenOther n_seenWide n_seenWas n_sines n_at n_column n_gram n_right n_work : Nat) (v_thrown : Int32) (v_textSize : Int32) (v_place : Int32) (v_stations : Int32) (v_readStations : Int32) (v_doings : Int32) (v_seen : Int32) (v_seed : Int64) (v_wide : Int32) (v_up : Int64) (v_low : Int64) (r_p1 : Nat → Int32) (x2 : Int32) (x3 : Int32) {o_r : Int32} (hm : f_X6_reached F x2 x3 r_p1 = some o_r) : Met l yX6_reached wsX6_reached rm_X6_reached (gPre dC dI k [.ref n_t, .ref n_p1, .int x2, .int x3] sz (wd_b39fcd k n_t n_p1 n_text n_readPage n_page n_trial n_book n_kept n_isKept n_seenStation n_seenOther n_seenWide n_seenWas n_sines n_at n_column n_gram n_right n_work v_thrown v_textSize v_place v_stations v_readStations v_doings v_seen v_seed v_wide v_up v_low r_p1)) (gQI dC dI (va_A (wd_b39fcd k n_t n_p1 n_text n_readPage n_page n_trial n_book n_kept n_isKept n_seenStation n_seenOther n_seenWide n_seenWas n_sines n_at n_column n_gram n_right n_work v_thrown v_textSize v_place v_stations v_readStations v_doings v_seen v_seed v_wide v_up v_low r_p1) sz) o_r (wd_b39fcd k n_t n_p1 n_text n_readPage n_page n_trial n_book n_kept n_isKept n_seenStation n_seenOther n_seenWide n_seenWas n_sines n_at n_column n_gram n_right n_work v_thrown v_textSize v_place v_stations v_readStations v_doings v_seen v_seed v_wide v_up v_low r_p1)) 0 0 (va_A (wd_b39fcd k n_t n_p1 n_text n_readPage n_page n_trial n_book n_kept n_isKept n_seenStation n_seenOther n_seenWide n_seenWas n_sines n_at n_column n_gram n_right n_work v_thrown v_textSize v_place v_stations v_readStations v_doings v_seen v_seed v_wide v_up v_low r_p1) sz) := by
  refine g_entry (cc := cX6_reached) (maxL := 7) (ret := (some .int)) (lv := [(0, .ref n_t), (1, .ref n_p1), (2, .int x2), (3, .int x3)]) (by decide +kernel) rfl (Nat.le_of_ble_eq_true rfl) rfl (fun p e s m below meth c ls hx hb hr hml hts hown hlk hnm hsz hG hA hP hD hS hl => ?_)
  exact k_X6_reached hx hb hml hts hown hG hA F n_t n_p1 n_text n_readPage n_page n_trial n_book n_kept n_isKept n_seenStation n_seenOther n_seenWide n_seenWas n_sines n_at n_column n_gram n_right n_work v_thrown v_textSize v_place v_stations v_readStations v_doings v_seen v_seed v_wide v_up v_low r_p1 x2 x3 o_r (fun pc H locs ls v hd ho hP hD hS => by cases ho; exact g_ireti hx hb hr hlk hP hD hS hd) s.heap [] ls hl hP hD hS hm
end
section
set_option maxHeartbeats 4000000 in
set_option maxRecDepth 100000 in
theorem k_X6_tiedBy {p : Program} {l : Launch} {e : Env} {s : State} {m : MethodId} {args : Array Value} {below : List Frame} {meth : Method} {c : Code} {A : Nat → Prop} {Q : State → Prop} {dC : Nat → ClassId} {dI : Nat → Nat → Nat} {k : Nat → ClassId} (hx : p.tables.exec = Jvm.exec) (hb : c.code = cX6_tiedBy) (hml : c.maxLocals = 3) (hts : ∀ w ∈ wsX6_tiedBy, w.before args s = true) (hown : s.vm.findClass RX6 = some m.cls) (hG : gK dC dI k A s) (hA : ∀ q : Nat, s.heap.size ≤ q → A q) (F : Nat) (n_t n_p1 n_text n_readPage n_page n_trial n_book n_kept n_isKept n_seenStation n_seenOther n_seenWide n_seenWas n_sines n_at n_column n_gram n_right n_work : Nat) (v_thrown : Int32) (v_textSize : Int32) (v_place : Int32) (v_stations : Int32) (v_readStations : Int32) (v_doings : Int32) (v_seen : Int32) (v_seed : Int64) (v_wide : Int32) (v_up : Int64) (v_low : Int64) (r_p1 : Nat → Int32) (x2 : Int32) (o_r : Int32) (RET : ∀ (pc : Nat) (H : Heap) (locs : List Loc) (ls : Array Slot) (v : Int32), decode cX6_tiedBy pc = .ok (.ireturn, 1) → some v = some o_r → va_P (dC, dI) vwCl (wd_b39fcd k n_t n_p1 n_text n_readPage n_page n_trial n_book n_kept n_isKept n_seenStation n_seenOther n_seenWide n_seenWas n_sines n_at n_column n_gram n_right n_work v_thrown v_textSize v_place v_stations v_readStations v_doings v_seen v_seed v_wide v_up v_low r_p1) H → va_D A (wd_b39fcd k n_t n_p1 n_text n_readPage n_page n_trial n_book n_kept n_isKept n_seenStation n_seenOther n_seenWide n_seenWas n_sines n_at n_column n_gram n_right n_work v_thrown v_textSize v_place v_stations v_readStations v_doings v_seen v_seed v_wide v_up v_low r_p1) → va_S A s.heap H locs → W p l e rm_X6_tiedBy s m args below meth c H locs 0 0 Q (F0 m pc ls [.int v])) (H : Heap) (locs : List Loc) (ls : Array Slot) (hl : lv_has ls 3 [(0, .ref n_t), (1, .ref n_p1), (2, .int x2)]) (hP : va_P (dC, dI) vwCl (wd_b39fcd k n_t n_p1 n_text n_readPage n_page n_trial n_book n_kept n_isKept n_seenStation n_seenOther n_seenWide n_seenWas n_sines n_at n_column n_gram n_right n_work v_thrown v_textSize v_place v_stations v_readStations v_doings v_seen v_seed v_wide v_up v_low r_p1) H) (hD : va_D A (wd_b39fcd k n_t n_p1 n_text n_readPage n_page n_trial n_book n_kept n_isKept n_seenStation n_seenOther n_seenWide n_seenWas n_sines n_at n_column n_gram n_right n_work v_thrown v_textSize v_place v_stations v_readStations v_doings v_seen v_seed v_wide v_up v_low r_p1)) (hS : va_S A s.heap H locs) (hm : f_X6_tiedBy F x2 r_p1 = some o_r) : W p l e rm_X6_tiedBy s m args below meth c H locs 0 0 Q (F0 m 0 ls []) := by
  unfold f_X6_tiedBy at hm
  refine lv_aload_n hx hb dX6_tiedBy_0 rfl (lv_at hl 0 rfl) ?_
  refine lv_aload_n hx hb dX6_tiedBy_1 rfl (lv_at hl 1 rfl) ?_
  refine lv_iload_n hx hb dX6_tiedBy_2 rfl (lv_at hl 2 rfl) ?_
  refine lv_iconst (v := (0 : Int32)) hx hb dX6_tiedBy_3 (by decide) ?_
  obtain ⟨r1, e2, hm⟩ := bnd1_some hm
  refine g_calli (w2 := (wd_b39fcd k n_t n_p1 n_text n_readPage n_page n_trial n_book n_kept n_isKept n_seenStation n_seenOther n_seenWide n_seenWas n_sines n_at n_column n_gram n_right n_work v_thrown v_textSize v_place v_stations v_readStations v_doings v_seen v_seed v_wide v_up v_low r_p1)) (va_runV (As := [.ref n_p1, .int x2, .int (0 : Int32)]) (rest := []) ⟨hx, hb, hml, hown, hts⟩ (m_X6_reached l dC dI k F H.size n_t n_p1 n_text n_readPage n_page n_trial n_book n_kept n_isKept n_seenStation n_seenOther n_seenWide n_seenWas n_sines n_at n_column n_gram n_right n_work v_thrown v_textSize v_place v_stations v_readStations v_doings v_seen v_seed v_wide v_up v_low r_p1 x2 (0 : Int32) e2) (cwV 3 hts gX6_tiedBy_X6_reached rfl rfl rfl (by decide +kernel) ⟨Nat.le_of_ble_eq_true rfl, Nat.le_of_ble_eq_true rfl⟩) (g_preV hG hP hD hS hA [0, 1] rfl (by decide) (ci := 6) (q0 := 0) rfl rfl) rfl rfl hl.1 rfl (lv_room (Nat.le_of_ble_eq_true rfl)) dX6_tiedBy_4 ⟨Nat.le_of_ble_eq_true rfl, Nat.le_of_ble_eq_true rfl⟩) hP hD hS hA [0, 1] [] [0, 1] rfl rfl (by decide) (by decide) rfl (by decide) (fun H locs hP hD hS => ?_)
  exact RET _ _ _ _ _ dX6_tiedBy_7 hm hP hD hS
set_option maxRecDepth 100000 in
theorem m_X6_tiedBy (l : Launch) (dC : Nat → ClassId) (dI : Nat → Nat → Nat) (k : Nat → ClassId) (F : Nat) (sz : Nat) (n_t n_p1 n_text n_readPage n_page n_trial n_book n_kept n_isKept n_seenStation n_seenOther n_seenWide n_seenWas n_sines n_at n_column n_gram n_right n_work : Nat) (v_thrown : Int32) (v_textSize : Int32) (v_place : Int32) (v_stations : Int32) (v_readStations : Int32) (v_doings : Int32) (v_seen : Int32) (v_seed : Int64) (v_wide : Int32) (v_up : Int64) (v_low : Int64) (r_p1 : Nat → Int32) (x2 : Int32) {o_r : Int32} (hm : f_X6_tiedBy F x2 r_p1 = some o_r) : Met l yX6_tiedBy wsX6_tiedBy rm_X6_tiedBy (gPre dC dI k [.ref n_t, .ref n_p1, .int x2] sz (wd_b39fcd k n_t n_p1 n_text n_readPage n_page n_trial n_book n_kept n_isKept n_seenStation n_seenOther n_seenWide n_seenWas n_sines n_at n_column n_gram n_right n_work v_thrown v_textSize v_place v_stations v_readStations v_doings v_seen v_seed v_wide v_up v_low r_p1)) (gQI dC dI (va_A (wd_b39fcd k n_t n_p1 n_text n_readPage n_page n_trial n_book n_kept n_isKept n_seenStation n_seenOther n_seenWide n_seenWas n_sines n_at n_column n_gram n_right n_work v_thrown v_textSize v_place v_stations v_readStations v_doings v_seen v_seed v_wide v_up v_low r_p1) sz) o_r (wd_b39fcd k n_t n_p1 n_text n_readPage n_page n_trial n_book n_kept n_isKept n_seenStation n_seenOther n_seenWide n_seenWas n_sines n_at n_column n_gram n_right n_work v_thrown v_textSize v_place v_stations v_readStations v_doings v_seen v_seed v_wide v_up v_low r_p1)) 0 0 (va_A (wd_b39fcd k n_t n_p1 n_text n_readPage n_page n_trial n_book n_kept n_isKept n_seenStation n_seenOther n_seenWide n_seenWas n_sines n_at n_column n_gram n_right n_work v_thrown v_textSize v_place v_stations v_readStations v_doings v_seen v_seed v_wide v_up v_low r_p1) sz) := by
  refine g_entry (cc := cX6_tiedBy) (maxL := 3) (ret := (some .int)) (lv := [(0, .ref n_t), (1, .ref n_p1), (2, .int x2)]) (by decide +kernel) rfl (Nat.le_of_ble_eq_true rfl) rfl (fun p e s m below meth c ls hx hb hr hml hts hown hlk hnm hsz hG hA hP hD hS hl => ?_)
  exact k_X6_tiedBy hx hb hml hts hown hG hA F n_t n_p1 n_text n_readPage n_page n_trial n_book n_kept n_isKept n_seenStation n_seenOther n_seenWide n_seenWas n_sines n_at n_column n_gram n_right n_work v_thrown v_textSize v_place v_stations v_readStations v_doings v_seen v_seed v_wide v_up v_low r_p1 x2 o_r (fun pc H locs ls v hd ho hP hD hS => by cases ho; exact g_ireti hx hb hr hlk hP hD hS hd) s.heap [] ls hl hP hD hS hm
end
section
set_option maxHeartbeats 4000000 in
set_option maxRecDepth 100000 in
theorem k_X6_isTiedLeg {p : Program} {l : Launch} {e : Env} {s : State} {m : MethodId} {args : Array Value} {below : List Frame} {meth : Method} {c : Code} {A : Nat → Prop} {Q : State → Prop} {dC : Nat → ClassId} {dI : Nat → Nat → Nat} {k : Nat → ClassId} (hx : p.tables.exec = Jvm.exec) (hb : c.code = cX6_isTiedLeg) (hml : c.maxLocals = 4) (hts : ∀ w ∈ wsX6_isTiedLeg, w.before args s = true) (hown : s.vm.findClass RX6 = some m.cls) (hG : gK dC dI k A s) (hA : ∀ q : Nat, s.heap.size ≤ q → A q) (n_t n_p1 n_text n_readPage n_page n_trial n_book n_kept n_isKept n_seenStation n_seenOther n_seenWide n_seenWas n_sines n_at n_column n_gram n_right n_work : Nat) (v_thrown : Int32) (v_textSize : Int32) (v_place : Int32) (v_stations : Int32) (v_readStations : Int32) (v_doings : Int32) (v_seen : Int32) (v_seed : Int64) (v_wide : Int32) (v_up : Int64) (v_low : Int64) (r_p1 : Nat → Int32) (x2 : Int32) (x3 : Int32) (o_r : Int32) (RET : ∀ (pc : Nat) (H : Heap) (locs : List Loc) (ls : Array Slot) (v : Int32), decode cX6_isTiedLeg pc = .ok (.ireturn, 1) → some v = some o_r → narrow .boolean (.int v) = .int v → va_P (dC, dI) vwCl (wd_b39fcd k n_t n_p1 n_text n_readPage n_page n_trial n_book n_kept n_isKept n_seenStation n_seenOther n_seenWide n_seenWas n_sines n_at n_column n_gram n_right n_work v_thrown v_textSize v_place v_stations v_readStations v_doings v_seen v_seed v_wide v_up v_low r_p1) H → va_D A (wd_b39fcd k n_t n_p1 n_text n_readPage n_page n_trial n_book n_kept n_isKept n_seenStation n_seenOther n_seenWide n_seenWas n_sines n_at n_column n_gram n_right n_work v_thrown v_textSize v_place v_stations v_readStations v_doings v_seen v_seed v_wide v_up v_low r_p1) → va_S A s.heap H locs → W p l e rm_X6_isTiedLeg s m args below meth c H locs 0 0 Q (F0 m pc ls [.int v])) (H : Heap) (locs : List Loc) (ls : Array Slot) (hl : lv_has ls 4 [(0, .ref n_t), (1, .ref n_p1), (2, .int x2), (3, .int x3)]) (hP : va_P (dC, dI) vwCl (wd_b39fcd k n_t n_p1 n_text n_readPage n_page n_trial n_book n_kept n_isKept n_seenStation n_seenOther n_seenWide n_seenWas n_sines n_at n_column n_gram n_right n_work v_thrown v_textSize v_place v_stations v_readStations v_doings v_seen v_seed v_wide v_up v_low r_p1) H) (hD : va_D A (wd_b39fcd k n_t n_p1 n_text n_readPage n_page n_trial n_book n_kept n_isKept n_seenStation n_seenOther n_seenWide n_seenWas n_sines n_at n_column n_gram n_right n_work v_thrown v_textSize v_place v_stations v_readStations v_doings v_seen v_seed v_wide v_up v_low r_p1)) (hS : va_S A s.heap H locs) (hm : f_X6_isTiedLeg x2 x3 r_p1 = some o_r) : W p l e rm_X6_isTiedLeg s m args below meth c H locs 0 0 Q (F0 m 0 ls []) := by
  unfold f_X6_isTiedLeg at hm
  refine lv_iload_n hx hb dX6_isTiedLeg_0 rfl (lv_at hl 3 rfl) ?_
  refine lv_aload_n hx hb dX6_isTiedLeg_1 rfl (lv_at hl 1 rfl) ?_
  refine lv_iload_n hx hb dX6_isTiedLeg_2 rfl (lv_at hl 2 rfl) ?_
  refine lv_iconst (v := (4 : Int32)) hx hb dX6_isTiedLeg_3 (by decide) ?_
  obtain ⟨r1, e2, hm⟩ := bnd1_some hm
  refine g_calli (w2 := (wd_b39fcd k n_t n_p1 n_text n_readPage n_page n_trial n_book n_kept n_isKept n_seenStation n_seenOther n_seenWide n_seenWas n_sines n_at n_column n_gram n_right n_work v_thrown v_textSize v_place v_stations v_readStations v_doings v_seen v_seed v_wide v_up v_low r_p1)) (va_runS (As := [.ref n_p1, .int x2, .int (4 : Int32)]) (rest := [.int x3]) ⟨hx, hb, hml, hown, hts⟩ (m_X6_of l dC dI k H.size n_p1 r_p1 x2 (4 : Int32) e2) (va_cwS 3 hts gX6_isTiedLeg_X6_of rfl rfl rfl (by decide +kernel) ⟨Nat.le_of_ble_eq_true rfl, Nat.le_of_ble_eq_true rfl⟩) (g_preS hG hP hD hS hA [1] rfl (by decide)) rfl rfl hl.1 rfl (lv_room (Nat.le_of_ble_eq_true rfl)) dX6_isTiedLeg_4 ⟨Nat.le_of_ble_eq_true rfl, Nat.le_of_ble_eq_true rfl⟩) hP hD hS hA [1] [0] [0, 1] rfl rfl (by decide) (by decide) rfl (by decide) (fun H locs hP hD hS => ?_)
  obtain ⟨r3, e4, hm⟩ := bnd1_some hm
  refine g_calli (w2 := (wd_b39fcd k n_t n_p1 n_text n_readPage n_page n_trial n_book n_kept n_isKept n_seenStation n_seenOther n_seenWide n_seenWas n_sines n_at n_column n_gram n_right n_work v_thrown v_textSize v_place v_stations v_readStations v_doings v_seen v_seed v_wide v_up v_low r_p1)) (va_runS (As := [.int x3, .int r1]) (rest := []) ⟨hx, hb, hml, hown, hts⟩ (m_X6_has l dC dI k H.size  x3 r1 e4) (va_cwS 2 hts gX6_isTiedLeg_X6_has rfl rfl rfl (by decide +kernel) ⟨Nat.le_of_ble_eq_true rfl, Nat.le_of_ble_eq_true rfl⟩) (g_preS hG hP hD hS hA [] rfl (by decide)) rfl rfl hl.1 rfl (lv_room (Nat.le_of_ble_eq_true rfl)) dX6_isTiedLeg_7 ⟨Nat.le_of_ble_eq_true rfl, Nat.le_of_ble_eq_true rfl⟩) hP hD hS hA [] [0, 1] [0, 1] rfl rfl (by decide) (by decide) rfl (by decide) (fun H locs hP hD hS => ?_)
  obtain ⟨hz5, hm⟩ := chkZ_some hm
  exact RET _ _ _ _ _ dX6_isTiedLeg_10 hm hz5 hP hD hS
set_option maxRecDepth 100000 in
theorem m_X6_isTiedLeg (l : Launch) (dC : Nat → ClassId) (dI : Nat → Nat → Nat) (k : Nat → ClassId) (sz : Nat) (n_t n_p1 n_text n_readPage n_page n_trial n_book n_kept n_isKept n_seenStation n_seenOther n_seenWide n_seenWas n_sines n_at n_column n_gram n_right n_work : Nat) (v_thrown : Int32) (v_textSize : Int32) (v_place : Int32) (v_stations : Int32) (v_readStations : Int32) (v_doings : Int32) (v_seen : Int32) (v_seed : Int64) (v_wide : Int32) (v_up : Int64) (v_low : Int64) (r_p1 : Nat → Int32) (x2 : Int32) (x3 : Int32) {o_r : Int32} (hm : f_X6_isTiedLeg x2 x3 r_p1 = some o_r) : Met l yX6_isTiedLeg wsX6_isTiedLeg rm_X6_isTiedLeg (gPre dC dI k [.ref n_t, .ref n_p1, .int x2, .int x3] sz (wd_b39fcd k n_t n_p1 n_text n_readPage n_page n_trial n_book n_kept n_isKept n_seenStation n_seenOther n_seenWide n_seenWas n_sines n_at n_column n_gram n_right n_work v_thrown v_textSize v_place v_stations v_readStations v_doings v_seen v_seed v_wide v_up v_low r_p1)) (gQI dC dI (va_A (wd_b39fcd k n_t n_p1 n_text n_readPage n_page n_trial n_book n_kept n_isKept n_seenStation n_seenOther n_seenWide n_seenWas n_sines n_at n_column n_gram n_right n_work v_thrown v_textSize v_place v_stations v_readStations v_doings v_seen v_seed v_wide v_up v_low r_p1) sz) o_r (wd_b39fcd k n_t n_p1 n_text n_readPage n_page n_trial n_book n_kept n_isKept n_seenStation n_seenOther n_seenWide n_seenWas n_sines n_at n_column n_gram n_right n_work v_thrown v_textSize v_place v_stations v_readStations v_doings v_seen v_seed v_wide v_up v_low r_p1)) 0 0 (va_A (wd_b39fcd k n_t n_p1 n_text n_readPage n_page n_trial n_book n_kept n_isKept n_seenStation n_seenOther n_seenWide n_seenWas n_sines n_at n_column n_gram n_right n_work v_thrown v_textSize v_place v_stations v_readStations v_doings v_seen v_seed v_wide v_up v_low r_p1) sz) := by
  refine g_entry (cc := cX6_isTiedLeg) (maxL := 4) (ret := (some .boolean)) (lv := [(0, .ref n_t), (1, .ref n_p1), (2, .int x2), (3, .int x3)]) (by decide +kernel) rfl (Nat.le_of_ble_eq_true rfl) rfl (fun p e s m below meth c ls hx hb hr hml hts hown hlk hnm hsz hG hA hP hD hS hl => ?_)
  exact k_X6_isTiedLeg hx hb hml hts hown hG hA n_t n_p1 n_text n_readPage n_page n_trial n_book n_kept n_isKept n_seenStation n_seenOther n_seenWide n_seenWas n_sines n_at n_column n_gram n_right n_work v_thrown v_textSize v_place v_stations v_readStations v_doings v_seen v_seed v_wide v_up v_low r_p1 x2 x3 o_r (fun pc H locs ls v hd ho hz hP hD hS => by cases ho; exact g_iretz hx hb hr hlk hP hD hS hz hd) s.heap [] ls hl hP hD hS hm
end
section
set_option maxHeartbeats 4000000 in
set_option maxRecDepth 100000 in
theorem k_X6_loops {p : Program} {l : Launch} {e : Env} {s : State} {m : MethodId} {args : Array Value} {below : List Frame} {meth : Method} {c : Code} {A : Nat → Prop} {Q : State → Prop} {dC : Nat → ClassId} {dI : Nat → Nat → Nat} {k : Nat → ClassId} (hx : p.tables.exec = Jvm.exec) (hb : c.code = cX6_loops) (hml : c.maxLocals = 5) (hts : ∀ w ∈ wsX6_loops, w.before args s = true) (hown : s.vm.findClass RX6 = some m.cls) (hG : gK dC dI k A s) (hA : ∀ q : Nat, s.heap.size ≤ q → A q) (F : Nat) (n_t n_p1 n_text n_readPage n_page n_trial n_book n_kept n_isKept n_seenStation n_seenOther n_seenWide n_seenWas n_sines n_at n_column n_gram n_right n_work : Nat) (v_thrown : Int32) (v_textSize : Int32) (v_place : Int32) (v_stations : Int32) (v_readStations : Int32) (v_doings : Int32) (v_seen : Int32) (v_seed : Int64) (v_wide : Int32) (v_up : Int64) (v_low : Int64) (r_p1 : Nat → Int32) (o_r : Int32) (RET : ∀ (pc : Nat) (H : Heap) (locs : List Loc) (ls : Array Slot) (v : Int32), decode cX6_loops pc = .ok (.ireturn, 1) → some v = some o_r → va_P (dC, dI) vwCl (wd_b39fcd k n_t n_p1 n_text n_readPage n_page n_trial n_book n_kept n_isKept n_seenStation n_seenOther n_seenWide n_seenWas n_sines n_at n_column n_gram n_right n_work v_thrown v_textSize v_place v_stations v_readStations v_doings v_seen v_seed v_wide v_up v_low r_p1) H → va_D A (wd_b39fcd k n_t n_p1 n_text n_readPage n_page n_trial n_book n_kept n_isKept n_seenStation n_seenOther n_seenWide n_seenWas n_sines n_at n_column n_gram n_right n_work v_thrown v_textSize v_place v_stations v_readStations v_doings v_seen v_seed v_wide v_up v_low r_p1) → va_S A s.heap H locs → W p l e rm_X6_loops s m args below meth c H locs 0 0 Q (F0 m pc ls [.int v])) (H : Heap) (locs : List Loc) (ls : Array Slot) (hl : lv_has ls 5 [(0, .ref n_t), (1, .ref n_p1)]) (hP : va_P (dC, dI) vwCl (wd_b39fcd k n_t n_p1 n_text n_readPage n_page n_trial n_book n_kept n_isKept n_seenStation n_seenOther n_seenWide n_seenWas n_sines n_at n_column n_gram n_right n_work v_thrown v_textSize v_place v_stations v_readStations v_doings v_seen v_seed v_wide v_up v_low r_p1) H) (hD : va_D A (wd_b39fcd k n_t n_p1 n_text n_readPage n_page n_trial n_book n_kept n_isKept n_seenStation n_seenOther n_seenWide n_seenWas n_sines n_at n_column n_gram n_right n_work v_thrown v_textSize v_place v_stations v_readStations v_doings v_seen v_seed v_wide v_up v_low r_p1)) (hS : va_S A s.heap H locs) (hm : f_X6_loops F r_p1 = some o_r) : W p l e rm_X6_loops s m args below meth c H locs 0 0 Q (F0 m 0 ls []) := by
  have L_20 : ∀ (n20 : Nat) (x2 : Int32) (x3 : Int32) (x4 : Int32) (H : Heap) (locs : List Loc) (ls : Array Slot), lv_has ls 5 [(0, .ref n_t), (1, .ref n_p1), (2, .int x2), (3, .int x3), (4, .int x4)] → va_P (dC, dI) vwCl (wd_b39fcd k n_t n_p1 n_text n_readPage n_page n_trial n_book n_kept n_isKept n_seenStation n_seenOther n_seenWide n_seenWas n_sines n_at n_column n_gram n_right n_work v_thrown v_textSize v_place v_stations v_readStations v_doings v_seen v_seed v_wide v_up v_low r_p1) H → va_D A (wd_b39fcd k n_t n_p1 n_text n_readPage n_page n_trial n_book n_kept n_isKept n_seenStation n_seenOther n_seenWide n_seenWas n_sines n_at n_column n_gram n_right n_work v_thrown v_textSize v_place v_stations v_readStations v_doings v_seen v_seed v_wide v_up v_low r_p1) → va_S A s.heap H locs → f_X6_loops_L20 F r_p1 n20 x2 x3 x4 = some o_r → W p l e rm_X6_loops s m args below meth c H locs 0 0 Q (F0 m 20 ls []) := by
    intro n20
    induction n20 with
    | zero =>
      intro x2 x3 x4 H locs ls hl hP hD hS hm
      exact non_some hm
    | succ n20 ih20 =>
      have J_45 : ∀ (x2 : Int32) (x4 : Int32) (s0 : Int32) (s1 : Int32) (H : Heap) (locs : List Loc) (ls : Array Slot), lv_has ls 5 [(0, .ref n_t), (1, .ref n_p1), (2, .int x2), (4, .int x4)] → va_P (dC, dI) vwCl (wd_b39fcd k n_t n_p1 n_text n_readPage n_page n_trial n_book n_kept n_isKept n_seenStation n_seenOther n_seenWide n_seenWas n_sines n_at n_column n_gram n_right n_work v_thrown v_textSize v_place v_stations v_readStations v_doings v_seen v_seed v_wide v_up v_low r_p1) H → va_D A (wd_b39fcd k n_t n_p1 n_text n_readPage n_page n_trial n_book n_kept n_isKept n_seenStation n_seenOther n_seenWide n_seenWas n_sines n_at n_column n_gram n_right n_work v_thrown v_textSize v_place v_stations v_readStations v_doings v_seen v_seed v_wide v_up v_low r_p1) → va_S A s.heap H locs → f_X6_loops_J45 F r_p1 (f_X6_loops_L20 F r_p1 n20) x2 x4 s0 s1 = some o_r → W p l e rm_X6_loops s m args below meth c H locs 0 0 Q (F0 m 45 ls [.int s1, .int s0]) := by
        intro x2 x4 s0 s1 H locs ls hl hP hD hS hm
        unfold f_X6_loops_J45 at hm
        refine lv_iadd hx hb dX6_loops_45 ?_
        refine lv_topi (fun t1 et1 => ?_)
        replace hm := (nmd_eq et1).trans hm
        refine lv_istore_n (lv' := [(3, .int t1), (0, .ref n_t), (1, .ref n_p1), (2, .int x2), (4, .int x4)]) hx hb dX6_loops_46 rfl hl (by decide) rfl (fun ls hl => ?_)
        obtain ⟨t2, et2⟩ : ∃ y : Int32, y = x4 + (1 : Int32) := ⟨_, rfl⟩
        replace hm := (nmd_eq et2).trans hm
        refine lv_iinc (v := t2) (lv' := [(4, .int t2), (3, .int t1), (0, .ref n_t), (1, .ref n_p1), (2, .int x2)]) hx hb dX6_loops_47 hl (k := 4) rfl (by rw [et2]; rfl) (by decide) rfl (fun ls hl => ?_)
        refine lv_goto (tgt := 20) hx hb dX6_loops_50 (by decide) ?_
        exact ih20 _ _ _ _ _ _ (lv_sub hl [2, 3, 4, 1, 0] rfl) hP hD hS hm
      intro x2 x3 x4 H locs ls hl hP hD hS hm
      replace hm : f_X6_loops_B20 F r_p1 (f_X6_loops_L20 F r_p1 n20) x2 x3 x4 = some o_r := hm
      unfold f_X6_loops_B20 at hm
      refine lv_iload hx hb dX6_loops_20 (lv_at hl 4 rfl) ?_
      refine lv_aload_n hx hb dX6_loops_22 rfl (lv_at hl 1 rfl) ?_
      refine lv_iconst (v := (0 : Int32)) hx hb dX6_loops_23 (by decide) ?_
      obtain ⟨hi3, hm⟩ := chk_some hm
      refine va_iald hx hb hG.1 hP 1 0 rfl rfl hi3 dX6_loops_24 ?_
      refine lv_icmp_ge (tgt := 53) hx hb dX6_loops_25 (by decide) (fun c4 => ?_) (fun c4 => ?_)
      · replace hm := ifp c4 hm
        refine lv_iload_n hx hb dX6_loops_53 rfl (lv_at hl 3 rfl) ?_
        exact RET _ _ _ _ _ dX6_loops_54 hm hP hD hS
      · replace hm := ifn c4 hm
        refine lv_iload_n hx hb dX6_loops_28 rfl (lv_at hl 3 rfl) ?_
        refine lv_aload_n hx hb dX6_loops_29 rfl (lv_at hl 0 rfl) ?_
        refine lv_aload_n hx hb dX6_loops_30 rfl (lv_at hl 1 rfl) ?_
        refine lv_iload hx hb dX6_loops_31 (lv_at hl 4 rfl) ?_
        refine lv_iload_n hx hb dX6_loops_33 rfl (lv_at hl 2 rfl) ?_
        obtain ⟨r5, e6, hm⟩ := bnd1_some hm
        refine g_calli (w2 := (wd_b39fcd k n_t n_p1 n_text n_readPage n_page n_trial n_book n_kept n_isKept n_seenStation n_seenOther n_seenWide n_seenWas n_sines n_at n_column n_gram n_right n_work v_thrown v_textSize v_place v_stations v_readStations v_doings v_seen v_seed v_wide v_up v_low r_p1)) (va_runV (As := [.ref n_p1, .int x4, .int x2]) (rest := [.int x3]) ⟨hx, hb, hml, hown, hts⟩ (m_X6_isTiedLeg l dC dI k H.size n_t n_p1 n_text n_readPage n_page n_trial n_book n_kept n_isKept n_seenStation n_seenOther n_seenWide n_seenWas n_sines n_at n_column n_gram n_right n_work v_thrown v_textSize v_place v_stations v_readStations v_doings v_seen v_seed v_wide v_up v_low r_p1 x4 x2 e6) (cwV 3 hts gX6_loops_X6_isTiedLeg rfl rfl rfl (by decide +kernel) ⟨Nat.le_of_ble_eq_true rfl, Nat.le_of_ble_eq_true rfl⟩) (g_preV hG hP hD hS hA [0, 1] rfl (by decide) (ci := 6) (q0 := 0) rfl rfl) rfl rfl hl.1 rfl (lv_room (Nat.le_of_ble_eq_true rfl)) dX6_loops_34 ⟨Nat.le_of_ble_eq_true rfl, Nat.le_of_ble_eq_true rfl⟩) hP hD hS hA [0, 1] [] [0, 1] rfl rfl (by decide) (by decide) rfl (by decide) (fun H locs hP hD hS => ?_)
        refine lv_if_eq (tgt := 44) hx hb dX6_loops_37 (by decide) (fun c7 => ?_) (fun c7 => ?_)
        · replace hm := ifp c7 hm
          refine lv_iconst (v := (0 : Int32)) hx hb dX6_loops_44 (by decide) ?_
          exact J_45 _ _ _ _ _ _ _ (lv_sub hl [0, 1, 2, 4] rfl) hP hD hS hm
        · replace hm := ifn c7 hm
          refine lv_iconst (v := (1 : Int32)) hx hb dX6_loops_40 (by decide) ?_
          refine lv_goto (tgt := 45) hx hb dX6_loops_41 (by decide) ?_
          exact J_45 _ _ _ _ _ _ _ (lv_sub hl [0, 1, 2, 4] rfl) hP hD hS hm
  unfold f_X6_loops at hm
  refine lv_aload_n hx hb dX6_loops_0 rfl (lv_at hl 0 rfl) ?_
  refine lv_aload_n hx hb dX6_loops_1 rfl (lv_at hl 1 rfl) ?_
  refine lv_aload_n hx hb dX6_loops_2 rfl (lv_at hl 1 rfl) ?_
  obtain ⟨r8, e9, hm⟩ := bnd1_some hm
  refine g_calli (w2 := (wd_b39fcd k n_t n_p1 n_text n_readPage n_page n_trial n_book n_kept n_isKept n_seenStation n_seenOther n_seenWide n_seenWas n_sines n_at n_column n_gram n_right n_work v_thrown v_textSize v_place v_stations v_readStations v_doings v_seen v_seed v_wide v_up v_low r_p1)) (va_runS (As := [.ref n_p1]) (rest := [.ref n_p1, .ref n_t]) ⟨hx, hb, hml, hown, hts⟩ (m_X6_all l dC dI k H.size n_p1 r_p1  e9) (va_cwS 1 hts gX6_loops_X6_all rfl rfl rfl (by decide +kernel) ⟨Nat.le_of_ble_eq_true rfl, Nat.le_of_ble_eq_true rfl⟩) (g_preS hG hP hD hS hA [1] rfl (by decide)) rfl rfl hl.1 rfl (lv_room (Nat.le_of_ble_eq_true rfl)) dX6_loops_3 ⟨Nat.le_of_ble_eq_true rfl, Nat.le_of_ble_eq_true rfl⟩) hP hD hS hA [1] [0] [0, 1] rfl rfl (by decide) (by decide) rfl (by decide) (fun H locs hP hD hS => ?_)
  obtain ⟨r10, e11, hm⟩ := bnd1_some hm
  refine g_calli (w2 := (wd_b39fcd k n_t n_p1 n_text n_readPage n_page n_trial n_book n_kept n_isKept n_seenStation n_seenOther n_seenWide n_seenWas n_sines n_at n_column n_gram n_right n_work v_thrown v_textSize v_place v_stations v_readStations v_doings v_seen v_seed v_wide v_up v_low r_p1)) (va_runV (As := [.ref n_p1, .int r8]) (rest := []) ⟨hx, hb, hml, hown, hts⟩ (m_X6_tiedBy l dC dI k F H.size n_t n_p1 n_text n_readPage n_page n_trial n_book n_kept n_isKept n_seenStation n_seenOther n_seenWide n_seenWas n_sines n_at n_column n_gram n_right n_work v_thrown v_textSize v_place v_stations v_readStations v_doings v_seen v_seed v_wide v_up v_low r_p1 r8 e11) (cwV 2 hts gX6_loops_X6_tiedBy rfl rfl rfl (by decide +kernel) ⟨Nat.le_of_ble_eq_true rfl, Nat.le_of_ble_eq_true rfl⟩) (g_preV hG hP hD hS hA [0, 1] rfl (by decide) (ci := 6) (q0 := 0) rfl rfl) rfl rfl hl.1 rfl (lv_room (Nat.le_of_ble_eq_true rfl)) dX6_loops_6 ⟨Nat.le_of_ble_eq_true rfl, Nat.le_of_ble_eq_true rfl⟩) hP hD hS hA [0, 1] [] [0, 1] rfl rfl (by decide) (by decide) rfl (by decide) (fun H locs hP hD hS => ?_)
  refine lv_istore_n (lv' := [(2, .int r10), (0, .ref n_t), (1, .ref n_p1)]) hx hb dX6_loops_9 rfl hl (by decide) rfl (fun ls hl => ?_)
  refine lv_iconst (v := (1 : Int32)) hx hb dX6_loops_10 (by decide) ?_
  refine lv_iload_n hx hb dX6_loops_11 rfl (lv_at hl 0 rfl) ?_
  obtain ⟨r12, e13, hm⟩ := bnd1_some hm
  refine g_calli (w2 := (wd_b39fcd k n_t n_p1 n_text n_readPage n_page n_trial n_book n_kept n_isKept n_seenStation n_seenOther n_seenWide n_seenWas n_sines n_at n_column n_gram n_right n_work v_thrown v_textSize v_place v_stations v_readStations v_doings v_seen v_seed v_wide v_up v_low r_p1)) (va_runS (As := [.int r10]) (rest := [.int (1 : Int32)]) ⟨hx, hb, hml, hown, hts⟩ (m_X6_ones l dC dI k F H.size  r10 e13) (va_cwS 1 hts gX6_loops_X6_ones rfl rfl rfl (by decide +kernel) ⟨Nat.le_of_ble_eq_true rfl, Nat.le_of_ble_eq_true rfl⟩) (g_preS hG hP hD hS hA [] rfl (by decide)) rfl rfl hl.1 rfl (lv_room (Nat.le_of_ble_eq_true rfl)) dX6_loops_12 ⟨Nat.le_of_ble_eq_true rfl, Nat.le_of_ble_eq_true rfl⟩) hP hD hS hA [] [0, 1] [0, 1] rfl rfl (by decide) (by decide) rfl (by decide) (fun H locs hP hD hS => ?_)
  refine lv_isub hx hb dX6_loops_15 ?_
  refine lv_topi (fun t14 et14 => ?_)
  replace hm := (nmd_eq et14).trans hm
  refine lv_istore_n (lv' := [(3, .int t14), (2, .int r10), (0, .ref n_t), (1, .ref n_p1)]) hx hb dX6_loops_16 rfl hl (by decide) rfl (fun ls hl => ?_)
  refine lv_iconst (v := (0 : Int32)) hx hb dX6_loops_17 (by decide) ?_
  refine lv_istore (lv' := [(4, .int (0 : Int32)), (3, .int t14), (2, .int r10), (0, .ref n_t), (1, .ref n_p1)]) hx hb dX6_loops_18 hl (by decide) rfl (fun ls hl => ?_)
  exact L_20 F _ _ _ _ _ _ (lv_sub hl [3, 4, 2, 1, 0] rfl) hP hD hS hm
set_option maxRecDepth 100000 in
theorem m_X6_loops (l : Launch) (dC : Nat → ClassId) (dI : Nat → Nat → Nat) (k : Nat → ClassId) (F : Nat) (sz : Nat) (n_t n_p1 n_text n_readPage n_page n_trial n_book n_kept n_isKept n_seenStation n_seenOther n_seenWide n_seenWas n_sines n_at n_column n_gram n_right n_work : Nat) (v_thrown : Int32) (v_textSize : Int32) (v_place : Int32) (v_stations : Int32) (v_readStations : Int32) (v_doings : Int32) (v_seen : Int32) (v_seed : Int64) (v_wide : Int32) (v_up : Int64) (v_low : Int64) (r_p1 : Nat → Int32) {o_r : Int32} (hm : f_X6_loops F r_p1 = some o_r) : Met l yX6_loops wsX6_loops rm_X6_loops (gPre dC dI k [.ref n_t, .ref n_p1] sz (wd_b39fcd k n_t n_p1 n_text n_readPage n_page n_trial n_book n_kept n_isKept n_seenStation n_seenOther n_seenWide n_seenWas n_sines n_at n_column n_gram n_right n_work v_thrown v_textSize v_place v_stations v_readStations v_doings v_seen v_seed v_wide v_up v_low r_p1)) (gQI dC dI (va_A (wd_b39fcd k n_t n_p1 n_text n_readPage n_page n_trial n_book n_kept n_isKept n_seenStation n_seenOther n_seenWide n_seenWas n_sines n_at n_column n_gram n_right n_work v_thrown v_textSize v_place v_stations v_readStations v_doings v_seen v_seed v_wide v_up v_low r_p1) sz) o_r (wd_b39fcd k n_t n_p1 n_text n_readPage n_page n_trial n_book n_kept n_isKept n_seenStation n_seenOther n_seenWide n_seenWas n_sines n_at n_column n_gram n_right n_work v_thrown v_textSize v_place v_stations v_readStations v_doings v_seen v_seed v_wide v_up v_low r_p1)) 0 0 (va_A (wd_b39fcd k n_t n_p1 n_text n_readPage n_page n_trial n_book n_kept n_isKept n_seenStation n_seenOther n_seenWide n_seenWas n_sines n_at n_column n_gram n_right n_work v_thrown v_textSize v_place v_stations v_readStations v_doings v_seen v_seed v_wide v_up v_low r_p1) sz) := by
  refine g_entry (cc := cX6_loops) (maxL := 5) (ret := (some .int)) (lv := [(0, .ref n_t), (1, .ref n_p1)]) (by decide +kernel) rfl (Nat.le_of_ble_eq_true rfl) rfl (fun p e s m below meth c ls hx hb hr hml hts hown hlk hnm hsz hG hA hP hD hS hl => ?_)
  exact k_X6_loops hx hb hml hts hown hG hA F n_t n_p1 n_text n_readPage n_page n_trial n_book n_kept n_isKept n_seenStation n_seenOther n_seenWide n_seenWas n_sines n_at n_column n_gram n_right n_work v_thrown v_textSize v_place v_stations v_readStations v_doings v_seen v_seed v_wide v_up v_low r_p1 o_r (fun pc H locs ls v hd ho hP hD hS => by cases ho; exact g_ireti hx hb hr hlk hP hD hS hd) s.heap [] ls hl hP hD hS hm
end
section
set_option maxHeartbeats 4000000 in
set_option maxRecDepth 100000 in
theorem k_X6_layOut {p : Program} {l : Launch} {e : Env} {s : State} {m : MethodId} {args : Array Value} {below : List Frame} {meth : Method} {c : Code} {A : Nat → Prop} {Q : State → Prop} {dC : Nat → ClassId} {dI : Nat → Nat → Nat} {k : Nat → ClassId} (hx : p.tables.exec = Jvm.exec) (hb : c.code = cX6_layOut) (hml : c.maxLocals = 9) (hts : ∀ w ∈ wsX6_layOut, w.before args s = true) (hown : s.vm.findClass RX6 = some m.cls) (hG : gK dC dI k A s) (hA : ∀ q : Nat, s.heap.size ≤ q → A q) (F : Nat) (n_t n_p1 n_text n_readPage n_page n_trial n_book n_kept n_isKept n_seenStation n_seenOther n_seenWide n_seenWas n_sines n_at n_column n_gram n_right n_work : Nat) (v_thrown : Int32) (v_textSize : Int32) (v_place : Int32) (v_stations : Int32) (v_readStations : Int32) (v_doings : Int32) (v_seen : Int32) (v_seed : Int64) (v_wide : Int32) (v_up : Int64) (v_low : Int64) (r_sines : Nat → Int32) (r_at : Nat → Int32) (r_p1 : Nat → Int32) (o_r_at : (Nat → Int32)) (RET : ∀ (pc : Nat) (H : Heap) (locs : List Loc) (ls : Array Slot) (q_r_at : Nat → Int32), decode cX6_layOut pc = .ok (.return_, 1) → some q_r_at = some o_r_at → va_P (dC, dI) vwCl (wd_4da35a k n_t n_p1 n_text n_readPage n_page n_trial n_book n_kept n_isKept n_seenStation n_seenOther n_seenWide n_seenWas n_sines n_at n_column n_gram n_right n_work v_thrown v_textSize v_place v_stations v_readStations v_doings v_seen v_seed v_wide v_up v_low r_sines q_r_at r_p1) H → va_D A (wd_4da35a k n_t n_p1 n_text n_readPage n_page n_trial n_book n_kept n_isKept n_seenStation n_seenOther n_seenWide n_seenWas n_sines n_at n_column n_gram n_right n_work v_thrown v_textSize v_place v_stations v_readStations v_doings v_seen v_seed v_wide v_up v_low r_sines q_r_at r_p1) → va_S A s.heap H locs → W p l e rm_X6_layOut s m args below meth c H locs 0 0 Q (F0 m pc ls [])) (H : Heap) (locs : List Loc) (ls : Array Slot) (hl : lv_has ls 9 [(0, .ref n_t), (1, .ref n_p1)]) (hP : va_P (dC, dI) vwCl (wd_4da35a k n_t n_p1 n_text n_readPage n_page n_trial n_book n_kept n_isKept n_seenStation n_seenOther n_seenWide n_seenWas n_sines n_at n_column n_gram n_right n_work v_thrown v_textSize v_place v_stations v_readStations v_doings v_seen v_seed v_wide v_up v_low r_sines r_at r_p1) H) (hD : va_D A (wd_4da35a k n_t n_p1 n_text n_readPage n_page n_trial n_book n_kept n_isKept n_seenStation n_seenOther n_seenWide n_seenWas n_sines n_at n_column n_gram n_right n_work v_thrown v_textSize v_place v_stations v_readStations v_doings v_seen v_seed v_wide v_up v_low r_sines r_at r_p1)) (hS : va_S A s.heap H locs) (hm : f_X6_layOut F r_sines r_at r_p1 = some o_r_at) : W p l e rm_X6_layOut s m args below meth c H locs 0 0 Q (F0 m 0 ls []) := by
  have hinX6 : ∀ w ∈ u_ws RX6 TX6 28, w ∈ wsX6_layOut := by decide +kernel
  have k0 := hts (.fieldLink RX6 51 "CaveLegsModel" "at" "[I") (by decide +kernel)
  have L_25 : ∀ (n25 : Nat) (r_at : Nat → Int32) (x2 : Int32) (x3 : Int32) (H : Heap) (locs : List Loc) (ls : Array Slot), lv_has ls 9 [(0, .ref n_t), (1, .ref n_p1), (2, .int x2), (3, .int x3)] → va_P (dC, dI) vwCl (wd_4da35a k n_t n_p1 n_text n_readPage n_page n_trial n_book n_kept n_isKept n_seenStation n_seenOther n_seenWide n_seenWas n_sines n_at n_column n_gram n_right n_work v_thrown v_textSize v_place v_stations v_readStations v_doings v_seen v_seed v_wide v_up v_low r_sines r_at r_p1) H → va_D A (wd_4da35a k n_t n_p1 n_text n_readPage n_page n_trial n_book n_kept n_isKept n_seenStation n_seenOther n_seenWide n_seenWas n_sines n_at n_column n_gram n_right n_work v_thrown v_textSize v_place v_stations v_readStations v_doings v_seen v_seed v_wide v_up v_low r_sines r_at r_p1) → va_S A s.heap H locs → f_X6_layOut_L25 F r_sines r_p1 n25 r_at x2 x3 = some o_r_at → W p l e rm_X6_layOut s m args below meth c H locs 0 0 Q (F0 m 25 ls []) := by
    intro n25
    induction n25 with
    | zero =>
      intro r_at x2 x3 H locs ls hl hP hD hS hm
      exact non_some hm
    | succ n25 ih25 =>
      have J_178 : ∀ (r_at : Nat → Int32) (x2 : Int32) (x3 : Int32) (H : Heap) (locs : List Loc) (ls : Array Slot), lv_has ls 9 [(0, .ref n_t), (1, .ref n_p1), (2, .int x2), (3, .int x3)] → va_P (dC, dI) vwCl (wd_4da35a k n_t n_p1 n_text n_readPage n_page n_trial n_book n_kept n_isKept n_seenStation n_seenOther n_seenWide n_seenWas n_sines n_at n_column n_gram n_right n_work v_thrown v_textSize v_place v_stations v_readStations v_doings v_seen v_seed v_wide v_up v_low r_sines r_at r_p1) H → va_D A (wd_4da35a k n_t n_p1 n_text n_readPage n_page n_trial n_book n_kept n_isKept n_seenStation n_seenOther n_seenWide n_seenWas n_sines n_at n_column n_gram n_right n_work v_thrown v_textSize v_place v_stations v_readStations v_doings v_seen v_seed v_wide v_up v_low r_sines r_at r_p1) → va_S A s.heap H locs → f_X6_layOut_J178 F r_sines r_p1 (f_X6_layOut_L25 F r_sines r_p1 n25) r_at x2 x3 = some o_r_at → W p l e rm_X6_layOut s m args below meth c H locs 0 0 Q (F0 m 178 ls []) := by
        intro r_at x2 x3 H locs ls hl hP hD hS hm
        unfold f_X6_layOut_J178 at hm
        refine lv_goto (tgt := 25) hx hb dX6_layOut_178 (by decide) ?_
        exact ih25 _ _ _ _ _ _ (lv_sub hl [0, 1, 2, 3] rfl) hP hD hS hm
      have L_80 : ∀ (n80 : Nat) (r_at : Nat → Int32) (x2 : Int32) (x3 : Int32) (x4 : Int32) (x5 : Int32) (x6 : Int32) (x7 : Int32) (H : Heap) (locs : List Loc) (ls : Array Slot), lv_has ls 9 [(0, .ref n_t), (1, .ref n_p1), (2, .int x2), (3, .int x3), (4, .int x4), (5, .int x5), (6, .int x6), (7, .int x7)] → va_P (dC, dI) vwCl (wd_4da35a k n_t n_p1 n_text n_readPage n_page n_trial n_book n_kept n_isKept n_seenStation n_seenOther n_seenWide n_seenWas n_sines n_at n_column n_gram n_right n_work v_thrown v_textSize v_place v_stations v_readStations v_doings v_seen v_seed v_wide v_up v_low r_sines r_at r_p1) H → va_D A (wd_4da35a k n_t n_p1 n_text n_readPage n_page n_trial n_book n_kept n_isKept n_seenStation n_seenOther n_seenWide n_seenWas n_sines n_at n_column n_gram n_right n_work v_thrown v_textSize v_place v_stations v_readStations v_doings v_seen v_seed v_wide v_up v_low r_sines r_at r_p1) → va_S A s.heap H locs → f_X6_layOut_L80 F r_sines r_p1 (f_X6_layOut_L25 F r_sines r_p1 n25) n80 r_at x2 x3 x4 x5 x6 x7 = some o_r_at → W p l e rm_X6_layOut s m args below meth c H locs 0 0 Q (F0 m 80 ls []) := by
        intro n80
        induction n80 with
        | zero =>
          intro r_at x2 x3 x4 x5 x6 x7 H locs ls hl hP hD hS hm
          exact non_some hm
        | succ n80 ih80 =>
          have J_158 : ∀ (r_at : Nat → Int32) (x2 : Int32) (x3 : Int32) (x4 : Int32) (x5 : Int32) (x6 : Int32) (x7 : Int32) (H : Heap) (locs : List Loc) (ls : Array Slot), lv_has ls 9 [(0, .ref n_t), (1, .ref n_p1), (2, .int x2), (3, .int x3), (4, .int x4), (5, .int x5), (6, .int x6), (7, .int x7)] → va_P (dC, dI) vwCl (wd_4da35a k n_t n_p1 n_text n_readPage n_page n_trial n_book n_kept n_isKept n_seenStation n_seenOther n_seenWide n_seenWas n_sines n_at n_column n_gram n_right n_work v_thrown v_textSize v_place v_stations v_readStations v_doings v_seen v_seed v_wide v_up v_low r_sines r_at r_p1) H → va_D A (wd_4da35a k n_t n_p1 n_text n_readPage n_page n_trial n_book n_kept n_isKept n_seenStation n_seenOther n_seenWide n_seenWas n_sines n_at n_column n_gram n_right n_work v_thrown v_textSize v_place v_stations v_readStations v_doings v_seen v_seed v_wide v_up v_low r_sines r_at r_p1) → va_S A s.heap H locs → f_X6_layOut_J158 F r_sines r_p1 (f_X6_layOut_L25 F r_sines r_p1 n25) (f_X6_layOut_L80 F r_sines r_p1 (f_X6_layOut_L25 F r_sines r_p1 n25) n80) r_at x2 x3 x4 x5 x6 x7 = some o_r_at → W p l e rm_X6_layOut s m args below meth c H locs 0 0 Q (F0 m 158 ls []) := by
            intro r_at x2 x3 x4 x5 x6 x7 H locs ls hl hP hD hS hm
            unfold f_X6_layOut_J158 at hm
            obtain ⟨t1, et1⟩ : ∃ y : Int32, y = x7 + (1 : Int32) := ⟨_, rfl⟩
            replace hm := (nmd_eq et1).trans hm
            refine lv_iinc (v := t1) (lv' := [(7, .int t1), (0, .ref n_t), (1, .ref n_p1), (2, .int x2), (3, .int x3), (4, .int x4), (5, .int x5), (6, .int x6)]) hx hb dX6_layOut_158 hl (k := 7) rfl (by rw [et1]; rfl) (by decide) rfl (fun ls hl => ?_)
            refine lv_goto (tgt := 80) hx hb dX6_layOut_161 (by decide) ?_
            exact ih80 _ _ _ _ _ _ _ _ _ _ (lv_sub hl [1, 2, 3, 4, 5, 6, 7, 0] rfl) hP hD hS hm
          intro r_at x2 x3 x4 x5 x6 x7 H locs ls hl hP hD hS hm
          replace hm : f_X6_layOut_B80 F r_sines r_p1 (f_X6_layOut_L25 F r_sines r_p1 n25) (f_X6_layOut_L80 F r_sines r_p1 (f_X6_layOut_L25 F r_sines r_p1 n25) n80) r_at x2 x3 x4 x5 x6 x7 = some o_r_at := hm
          unfold f_X6_layOut_B80 at hm
          refine lv_iload hx hb dX6_layOut_80 (lv_at hl 7 rfl) ?_
          refine lv_iconst (v := (3 : Int32)) hx hb dX6_layOut_82 (by decide) ?_
          refine lv_icmp_ge (tgt := 164) hx hb dX6_layOut_83 (by decide) (fun c2 => ?_) (fun c2 => ?_)
          · replace hm := ifp c2 hm
            refine lv_iload_n hx hb dX6_layOut_164 rfl (lv_at hl 2 rfl) ?_
            refine lv_iconst (v := (1 : Int32)) hx hb dX6_layOut_165 (by decide) ?_
            refine lv_iload hx hb dX6_layOut_166 (lv_at hl 4 rfl) ?_
            refine g_ishl hx hb dX6_layOut_168 ?_
            refine lv_iconst (v := (1 : Int32)) hx hb dX6_layOut_169 (by decide) ?_
            refine lv_iload hx hb dX6_layOut_170 (lv_at hl 5 rfl) ?_
            refine g_ishl hx hb dX6_layOut_172 ?_
            refine lv_ior hx hb dX6_layOut_173 ?_
            refine lv_ior hx hb dX6_layOut_174 ?_
            refine lv_topi (fun t3 et3 => ?_)
            replace hm := (nmd_eq et3).trans hm
            refine lv_istore_n (lv' := [(2, .int t3), (0, .ref n_t), (1, .ref n_p1), (3, .int x3), (4, .int x4), (5, .int x5), (6, .int x6), (7, .int x7)]) hx hb dX6_layOut_175 rfl hl (by decide) rfl (fun ls hl => ?_)
            refine lv_iconst (v := (0 : Int32)) hx hb dX6_layOut_176 (by decide) ?_
            refine lv_istore_n (lv' := [(3, .int (0 : Int32)), (2, .int t3), (0, .ref n_t), (1, .ref n_p1), (4, .int x4), (5, .int x5), (6, .int x6), (7, .int x7)]) hx hb dX6_layOut_177 rfl hl (by decide) rfl (fun ls hl => ?_)
            exact J_178 _ _ _ _ _ _ (lv_sub hl [2, 3, 1, 0] rfl) hP hD hS hm
          · replace hm := ifn c2 hm
            refine lv_aload_n hx hb dX6_layOut_86 rfl (lv_at hl 0 rfl) ?_
            refine lv_aload_n hx hb dX6_layOut_87 rfl (lv_at hl 1 rfl) ?_
            refine lv_iload_n hx hb dX6_layOut_88 rfl (lv_at hl 3 rfl) ?_
            refine lv_iload hx hb dX6_layOut_89 (lv_at hl 7 rfl) ?_
            obtain ⟨r4, e5, hm⟩ := bnd1_some hm
            refine g_calli (w2 := (wd_4da35a k n_t n_p1 n_text n_readPage n_page n_trial n_book n_kept n_isKept n_seenStation n_seenOther n_seenWide n_seenWas n_sines n_at n_column n_gram n_right n_work v_thrown v_textSize v_place v_stations v_readStations v_doings v_seen v_seed v_wide v_up v_low r_sines r_at r_p1)) (va_runV (As := [.ref n_p1, .int x3, .int x7]) (rest := []) ⟨hx, hb, hml, hown, hts⟩ (m_X6_stepOf l dC dI k H.size n_t n_p1 n_text n_readPage n_page n_trial n_book n_kept n_isKept n_seenStation n_seenOther n_seenWide n_seenWas n_sines n_at n_column n_gram n_right n_work v_thrown v_textSize v_place v_stations v_readStations v_doings v_seen v_seed v_wide v_up v_low r_sines r_p1 x3 x7 e5) (cwV 3 hts gX6_layOut_X6_stepOf rfl rfl rfl (by decide +kernel) ⟨Nat.le_of_ble_eq_true rfl, Nat.le_of_ble_eq_true rfl⟩) (g_preV hG hP hD hS hA [0, 1, 3] rfl (by decide) (ci := 6) (q0 := 0) rfl rfl) rfl rfl hl.1 rfl (lv_room (Nat.le_of_ble_eq_true rfl)) dX6_layOut_91 ⟨Nat.le_of_ble_eq_true rfl, Nat.le_of_ble_eq_true rfl⟩) hP hD hS hA [0, 1, 3] [2] [1, 2, 0, 3] rfl rfl (by decide) (by decide) rfl (by decide) (fun H locs hP hD hS => ?_)
            refine lv_istore (lv' := [(8, .int r4), (0, .ref n_t), (1, .ref n_p1), (2, .int x2), (3, .int x3), (4, .int x4), (5, .int x5), (6, .int x6), (7, .int x7)]) hx hb dX6_layOut_94 hl (by decide) rfl (fun ls hl => ?_)
            refine lv_iload hx hb dX6_layOut_96 (lv_at hl 7 rfl) ?_
            refine lv_if_eq (tgt := 131) hx hb dX6_layOut_98 (by decide) (fun c6 => ?_) (fun c6 => ?_)
            · replace hm := ifp c6 hm
              refine lv_aload_n hx hb dX6_layOut_131 rfl (lv_at hl 1 rfl) ?_
              refine va_get (D := (dC, dI)) (ci := 6) (v := .ref n_at) (C := RX6) (T := TX6) (N := 28) hx hb hts hinX6 hown hG.1 hP 0 rfl rfl 20 (by decide) k0 (fun _ h9 => h9) rfl dX6_layOut_132 ?_
              refine lv_iconst (v := (3 : Int32)) hx hb dX6_layOut_135 (by decide) ?_
              refine lv_iload hx hb dX6_layOut_136 (lv_at hl 5 rfl) ?_
              refine lv_imul hx hb dX6_layOut_138 ?_
              refine lv_iload hx hb dX6_layOut_139 (lv_at hl 8 rfl) ?_
              refine lv_iadd hx hb dX6_layOut_141 ?_
              refine lv_aload_n hx hb dX6_layOut_142 rfl (lv_at hl 1 rfl) ?_
              refine va_get (D := (dC, dI)) (ci := 6) (v := .ref n_at) (C := RX6) (T := TX6) (N := 28) hx hb hts hinX6 hown hG.1 hP 0 rfl rfl 20 (by decide) k0 (fun _ h9 => h9) rfl dX6_layOut_143 ?_
              refine lv_iconst (v := (3 : Int32)) hx hb dX6_layOut_146 (by decide) ?_
              refine lv_iload hx hb dX6_layOut_147 (lv_at hl 6 rfl) ?_
              refine lv_imul hx hb dX6_layOut_149 ?_
              refine lv_iload hx hb dX6_layOut_150 (lv_at hl 8 rfl) ?_
              refine lv_iadd hx hb dX6_layOut_152 ?_
              obtain ⟨hi7, hm⟩ := chk_some hm
              refine va_iald hx hb hG.1 hP 2 0 rfl rfl hi7 dX6_layOut_153 ?_
              refine lv_iload hx hb dX6_layOut_154 (lv_at hl 0 rfl) ?_
              refine lv_isub hx hb dX6_layOut_156 ?_
              refine lv_topi (fun t8 et8 => ?_)
              replace hm := (nmd_eq et8).trans hm
              obtain ⟨hi9, hm⟩ := chk_some hm
              refine va_iast hx hb hG.1 hP hD hS 2 0 rfl rfl hi9 dX6_layOut_157 (fun H locs hP hD hS => ?_)
              replace hP : va_P (dC, dI) vwCl (wd_4da35a k n_t n_p1 n_text n_readPage n_page n_trial n_book n_kept n_isKept n_seenStation n_seenOther n_seenWide n_seenWas n_sines n_at n_column n_gram n_right n_work v_thrown v_textSize v_place v_stations v_readStations v_doings v_seen v_seed v_wide v_up v_low r_sines (upd r_at (Int32.toNatClampNeg (((3 : Int32) * x4) + x7)) t8) r_p1) H := hP
              replace hD : va_D A (wd_4da35a k n_t n_p1 n_text n_readPage n_page n_trial n_book n_kept n_isKept n_seenStation n_seenOther n_seenWide n_seenWas n_sines n_at n_column n_gram n_right n_work v_thrown v_textSize v_place v_stations v_readStations v_doings v_seen v_seed v_wide v_up v_low r_sines (upd r_at (Int32.toNatClampNeg (((3 : Int32) * x4) + x7)) t8) r_p1) := hD
              exact J_158 _ _ _ _ _ _ _ _ _ _ (lv_sub hl [1, 2, 3, 4, 5, 6, 7, 8] rfl) hP hD hS hm
            · replace hm := ifn c6 hm
              refine lv_aload_n hx hb dX6_layOut_101 rfl (lv_at hl 1 rfl) ?_
              refine va_get (D := (dC, dI)) (ci := 6) (v := .ref n_at) (C := RX6) (T := TX6) (N := 28) hx hb hts hinX6 hown hG.1 hP 0 rfl rfl 20 (by decide) k0 (fun _ h9 => h9) rfl dX6_layOut_102 ?_
              refine lv_iconst (v := (3 : Int32)) hx hb dX6_layOut_105 (by decide) ?_
              refine lv_iload hx hb dX6_layOut_106 (lv_at hl 6 rfl) ?_
              refine lv_imul hx hb dX6_layOut_108 ?_
              refine lv_iload hx hb dX6_layOut_109 (lv_at hl 8 rfl) ?_
              refine lv_iadd hx hb dX6_layOut_111 ?_
              refine lv_aload_n hx hb dX6_layOut_112 rfl (lv_at hl 1 rfl) ?_
              refine va_get (D := (dC, dI)) (ci := 6) (v := .ref n_at) (C := RX6) (T := TX6) (N := 28) hx hb hts hinX6 hown hG.1 hP 0 rfl rfl 20 (by decide) k0 (fun _ h9 => h9) rfl dX6_layOut_113 ?_
              refine lv_iconst (v := (3 : Int32)) hx hb dX6_layOut_116 (by decide) ?_
              refine lv_iload hx hb dX6_layOut_117 (lv_at hl 5 rfl) ?_
              refine lv_imul hx hb dX6_layOut_119 ?_
              refine lv_iload hx hb dX6_layOut_120 (lv_at hl 8 rfl) ?_
              refine lv_iadd hx hb dX6_layOut_122 ?_
              obtain ⟨hi10, hm⟩ := chk_some hm
              refine va_iald hx hb hG.1 hP 2 0 rfl rfl hi10 dX6_layOut_123 ?_
              refine lv_iload hx hb dX6_layOut_124 (lv_at hl 0 rfl) ?_
              refine lv_iadd hx hb dX6_layOut_126 ?_
              refine lv_topi (fun t11 et11 => ?_)
              replace hm := (nmd_eq et11).trans hm
              obtain ⟨hi12, hm⟩ := chk_some hm
              refine va_iast hx hb hG.1 hP hD hS 2 0 rfl rfl hi12 dX6_layOut_127 (fun H locs hP hD hS => ?_)
              replace hP : va_P (dC, dI) vwCl (wd_4da35a k n_t n_p1 n_text n_readPage n_page n_trial n_book n_kept n_isKept n_seenStation n_seenOther n_seenWide n_seenWas n_sines n_at n_column n_gram n_right n_work v_thrown v_textSize v_place v_stations v_readStations v_doings v_seen v_seed v_wide v_up v_low r_sines (upd r_at (Int32.toNatClampNeg (((3 : Int32) * x5) + x7)) t11) r_p1) H := hP
              replace hD : va_D A (wd_4da35a k n_t n_p1 n_text n_readPage n_page n_trial n_book n_kept n_isKept n_seenStation n_seenOther n_seenWide n_seenWas n_sines n_at n_column n_gram n_right n_work v_thrown v_textSize v_place v_stations v_readStations v_doings v_seen v_seed v_wide v_up v_low r_sines (upd r_at (Int32.toNatClampNeg (((3 : Int32) * x5) + x7)) t11) r_p1) := hD
              refine lv_goto (tgt := 158) hx hb dX6_layOut_128 (by decide) ?_
              exact J_158 _ _ _ _ _ _ _ _ _ _ (lv_sub hl [1, 2, 3, 4, 5, 6, 7, 8] rfl) hP hD hS hm
      intro r_at x2 x3 H locs ls hl hP hD hS hm
      replace hm : f_X6_layOut_B25 F r_sines r_p1 (f_X6_layOut_L25 F r_sines r_p1 n25) r_at x2 x3 = some o_r_at := hm
      unfold f_X6_layOut_B25 at hm
      refine lv_iload_n hx hb dX6_layOut_25 rfl (lv_at hl 3 rfl) ?_
      refine lv_aload_n hx hb dX6_layOut_26 rfl (lv_at hl 1 rfl) ?_
      refine lv_iconst (v := (0 : Int32)) hx hb dX6_layOut_27 (by decide) ?_
      obtain ⟨hi13, hm⟩ := chk_some hm
      refine va_iald hx hb hG.1 hP 3 0 rfl rfl hi13 dX6_layOut_28 ?_
      refine lv_icmp_ge (tgt := 181) hx hb dX6_layOut_29 (by decide) (fun c14 => ?_) (fun c14 => ?_)
      · replace hm := ifp c14 hm
        exact RET _ _ _ _ _ dX6_layOut_181 hm hP hD hS
      · replace hm := ifn c14 hm
        refine lv_aload_n hx hb dX6_layOut_32 rfl (lv_at hl 1 rfl) ?_
        refine lv_iload_n hx hb dX6_layOut_33 rfl (lv_at hl 3 rfl) ?_
        refine lv_iconst (v := (4 : Int32)) hx hb dX6_layOut_34 (by decide) ?_
        obtain ⟨r15, e16, hm⟩ := bnd1_some hm
        refine g_calli (w2 := (wd_4da35a k n_t n_p1 n_text n_readPage n_page n_trial n_book n_kept n_isKept n_seenStation n_seenOther n_seenWide n_seenWas n_sines n_at n_column n_gram n_right n_work v_thrown v_textSize v_place v_stations v_readStations v_doings v_seen v_seed v_wide v_up v_low r_sines r_at r_p1)) (va_runS (As := [.ref n_p1, .int x3, .int (4 : Int32)]) (rest := []) ⟨hx, hb, hml, hown, hts⟩ (m_X6_of l dC dI k H.size n_p1 r_p1 x3 (4 : Int32) e16) (va_cwS 3 hts gX6_layOut_X6_of rfl rfl rfl (by decide +kernel) ⟨Nat.le_of_ble_eq_true rfl, Nat.le_of_ble_eq_true rfl⟩) (g_preS hG hP hD hS hA [3] rfl (by decide)) rfl rfl hl.1 rfl (lv_room (Nat.le_of_ble_eq_true rfl)) dX6_layOut_35 ⟨Nat.le_of_ble_eq_true rfl, Nat.le_of_ble_eq_true rfl⟩) hP hD hS hA [3] [0, 1, 2] [0, 1, 2, 3] rfl rfl (by decide) (by decide) rfl (by decide) (fun H locs hP hD hS => ?_)
        refine lv_istore (lv' := [(4, .int r15), (0, .ref n_t), (1, .ref n_p1), (2, .int x2), (3, .int x3)]) hx hb dX6_layOut_38 hl (by decide) rfl (fun ls hl => ?_)
        refine lv_aload_n hx hb dX6_layOut_40 rfl (lv_at hl 2 rfl) ?_
        refine lv_iload_n hx hb dX6_layOut_41 rfl (lv_at hl 4 rfl) ?_
        refine lv_iconst (v := (5 : Int32)) hx hb dX6_layOut_42 (by decide) ?_
        obtain ⟨r17, e18, hm⟩ := bnd1_some hm
        refine g_calli (w2 := (wd_4da35a k n_t n_p1 n_text n_readPage n_page n_trial n_book n_kept n_isKept n_seenStation n_seenOther n_seenWide n_seenWas n_sines n_at n_column n_gram n_right n_work v_thrown v_textSize v_place v_stations v_readStations v_doings v_seen v_seed v_wide v_up v_low r_sines r_at r_p1)) (va_runS (As := [.ref n_p1, .int x3, .int (5 : Int32)]) (rest := []) ⟨hx, hb, hml, hown, hts⟩ (m_X6_of l dC dI k H.size n_p1 r_p1 x3 (5 : Int32) e18) (va_cwS 3 hts gX6_layOut_X6_of rfl rfl rfl (by decide +kernel) ⟨Nat.le_of_ble_eq_true rfl, Nat.le_of_ble_eq_true rfl⟩) (g_preS hG hP hD hS hA [3] rfl (by decide)) rfl rfl hl.1 rfl (lv_room (Nat.le_of_ble_eq_true rfl)) dX6_layOut_43 ⟨Nat.le_of_ble_eq_true rfl, Nat.le_of_ble_eq_true rfl⟩) hP hD hS hA [3] [0, 1, 2] [0, 1, 2, 3] rfl rfl (by decide) (by decide) rfl (by decide) (fun H locs hP hD hS => ?_)
        refine lv_istore (lv' := [(5, .int r17), (4, .int r15), (0, .ref n_t), (1, .ref n_p1), (2, .int x2), (3, .int x3)]) hx hb dX6_layOut_46 hl (by decide) rfl (fun ls hl => ?_)
        refine lv_iload_n hx hb dX6_layOut_48 rfl (lv_at hl 4 rfl) ?_
        refine lv_iload hx hb dX6_layOut_49 (lv_at hl 1 rfl) ?_
        obtain ⟨r19, e20, hm⟩ := bnd1_some hm
        refine g_calli (w2 := (wd_4da35a k n_t n_p1 n_text n_readPage n_page n_trial n_book n_kept n_isKept n_seenStation n_seenOther n_seenWide n_seenWas n_sines n_at n_column n_gram n_right n_work v_thrown v_textSize v_place v_stations v_readStations v_doings v_seen v_seed v_wide v_up v_low r_sines r_at r_p1)) (va_runS (As := [.int x2, .int r15]) (rest := []) ⟨hx, hb, hml, hown, hts⟩ (m_X6_has l dC dI k H.size  x2 r15 e20) (va_cwS 2 hts gX6_layOut_X6_has rfl rfl rfl (by decide +kernel) ⟨Nat.le_of_ble_eq_true rfl, Nat.le_of_ble_eq_true rfl⟩) (g_preS hG hP hD hS hA [] rfl (by decide)) rfl rfl hl.1 rfl (lv_room (Nat.le_of_ble_eq_true rfl)) dX6_layOut_51 ⟨Nat.le_of_ble_eq_true rfl, Nat.le_of_ble_eq_true rfl⟩) hP hD hS hA [] [0, 1, 2, 3] [0, 1, 2, 3] rfl rfl (by decide) (by decide) rfl (by decide) (fun H locs hP hD hS => ?_)
        refine lv_iload_n hx hb dX6_layOut_54 rfl (lv_at hl 4 rfl) ?_
        refine lv_iload hx hb dX6_layOut_55 (lv_at hl 0 rfl) ?_
        obtain ⟨r21, e22, hm⟩ := bnd1_some hm
        refine g_calli (w2 := (wd_4da35a k n_t n_p1 n_text n_readPage n_page n_trial n_book n_kept n_isKept n_seenStation n_seenOther n_seenWide n_seenWas n_sines n_at n_column n_gram n_right n_work v_thrown v_textSize v_place v_stations v_readStations v_doings v_seen v_seed v_wide v_up v_low r_sines r_at r_p1)) (va_runS (As := [.int x2, .int r17]) (rest := [.int r19]) ⟨hx, hb, hml, hown, hts⟩ (m_X6_has l dC dI k H.size  x2 r17 e22) (va_cwS 2 hts gX6_layOut_X6_has rfl rfl rfl (by decide +kernel) ⟨Nat.le_of_ble_eq_true rfl, Nat.le_of_ble_eq_true rfl⟩) (g_preS hG hP hD hS hA [] rfl (by decide)) rfl rfl hl.1 rfl (lv_room (Nat.le_of_ble_eq_true rfl)) dX6_layOut_57 ⟨Nat.le_of_ble_eq_true rfl, Nat.le_of_ble_eq_true rfl⟩) hP hD hS hA [] [0, 1, 2, 3] [0, 1, 2, 3] rfl rfl (by decide) (by decide) rfl (by decide) (fun H locs hP hD hS => ?_)
        refine lv_icmp_ne (tgt := 69) hx hb dX6_layOut_60 (by decide) (fun c23 => ?_) (fun c23 => ?_)
        · replace hm := ifn c23 hm
          refine lv_iload_n hx hb dX6_layOut_69 rfl (lv_at hl 4 rfl) ?_
          refine lv_iload hx hb dX6_layOut_70 (lv_at hl 1 rfl) ?_
          obtain ⟨r24, e25, hm⟩ := bnd1_some hm
          refine g_calli (w2 := (wd_4da35a k n_t n_p1 n_text n_readPage n_page n_trial n_book n_kept n_isKept n_seenStation n_seenOther n_seenWide n_seenWas n_sines n_at n_column n_gram n_right n_work v_thrown v_textSize v_place v_stations v_readStations v_doings v_seen v_seed v_wide v_up v_low r_sines r_at r_p1)) (va_runS (As := [.int x2, .int r15]) (rest := []) ⟨hx, hb, hml, hown, hts⟩ (m_X6_has l dC dI k H.size  x2 r15 e25) (va_cwS 2 hts gX6_layOut_X6_has rfl rfl rfl (by decide +kernel) ⟨Nat.le_of_ble_eq_true rfl, Nat.le_of_ble_eq_true rfl⟩) (g_preS hG hP hD hS hA [] rfl (by decide)) rfl rfl hl.1 rfl (lv_room (Nat.le_of_ble_eq_true rfl)) dX6_layOut_72 ⟨Nat.le_of_ble_eq_true rfl, Nat.le_of_ble_eq_true rfl⟩) hP hD hS hA [] [0, 1, 2, 3] [0, 1, 2, 3] rfl rfl (by decide) (by decide) rfl (by decide) (fun H locs hP hD hS => ?_)
          refine lv_istore (lv' := [(6, .int r24), (5, .int r17), (4, .int r15), (0, .ref n_t), (1, .ref n_p1), (2, .int x2), (3, .int x3)]) hx hb dX6_layOut_75 hl (by decide) rfl (fun ls hl => ?_)
          refine lv_iconst (v := (0 : Int32)) hx hb dX6_layOut_77 (by decide) ?_
          refine lv_istore (lv' := [(7, .int (0 : Int32)), (6, .int r24), (5, .int r17), (4, .int r15), (0, .ref n_t), (1, .ref n_p1), (2, .int x2), (3, .int x3)]) hx hb dX6_layOut_78 hl (by decide) rfl (fun ls hl => ?_)
          exact L_80 F _ _ _ _ _ _ _ _ _ _ (lv_sub hl [4, 5, 6, 7, 3, 2, 1, 0] rfl) hP hD hS hm
        · replace hm := ifp c23 hm
          obtain ⟨t26, et26⟩ : ∃ y : Int32, y = x3 + (1 : Int32) := ⟨_, rfl⟩
          replace hm := (nmd_eq et26).trans hm
          refine lv_iinc (v := t26) (lv' := [(3, .int t26), (5, .int r17), (4, .int r15), (0, .ref n_t), (1, .ref n_p1), (2, .int x2)]) hx hb dX6_layOut_63 hl (k := 5) rfl (by rw [et26]; rfl) (by decide) rfl (fun ls hl => ?_)
          refine lv_goto (tgt := 178) hx hb dX6_layOut_66 (by decide) ?_
          exact J_178 _ _ _ _ _ _ (lv_sub hl [3, 4, 5, 0] rfl) hP hD hS hm
  have L_4 : ∀ (n4 : Nat) (r_at : Nat → Int32) (x2 : Int32) (x3 : Int32) (H : Heap) (locs : List Loc) (ls : Array Slot), lv_has ls 9 [(0, .ref n_t), (1, .ref n_p1), (2, .int x2), (3, .int x3)] → va_P (dC, dI) vwCl (wd_4da35a k n_t n_p1 n_text n_readPage n_page n_trial n_book n_kept n_isKept n_seenStation n_seenOther n_seenWide n_seenWas n_sines n_at n_column n_gram n_right n_work v_thrown v_textSize v_place v_stations v_readStations v_doings v_seen v_seed v_wide v_up v_low r_sines r_at r_p1) H → va_D A (wd_4da35a k n_t n_p1 n_text n_readPage n_page n_trial n_book n_kept n_isKept n_seenStation n_seenOther n_seenWide n_seenWas n_sines n_at n_column n_gram n_right n_work v_thrown v_textSize v_place v_stations v_readStations v_doings v_seen v_seed v_wide v_up v_low r_sines r_at r_p1) → va_S A s.heap H locs → f_X6_layOut_L4 F r_sines r_p1 n4 r_at x2 x3 = some o_r_at → W p l e rm_X6_layOut s m args below meth c H locs 0 0 Q (F0 m 4 ls []) := by
    intro n4
    induction n4 with
    | zero =>
      intro r_at x2 x3 H locs ls hl hP hD hS hm
      exact non_some hm
    | succ n4 ih4 =>
      intro r_at x2 x3 H locs ls hl hP hD hS hm
      replace hm : f_X6_layOut_B4 F r_sines r_p1 (f_X6_layOut_L4 F r_sines r_p1 n4) r_at x2 x3 = some o_r_at := hm
      unfold f_X6_layOut_B4 at hm
      refine lv_iload_n hx hb dX6_layOut_4 rfl (lv_at hl 3 rfl) ?_
      refine lv_bipush (v := (18 : Int32)) hx hb dX6_layOut_5 (by decide) ?_
      refine lv_icmp_ge (tgt := 23) hx hb dX6_layOut_7 (by decide) (fun c27 => ?_) (fun c27 => ?_)
      · replace hm := ifp c27 hm
        refine lv_iconst (v := (0 : Int32)) hx hb dX6_layOut_23 (by decide) ?_
        refine lv_istore_n (lv' := [(3, .int (0 : Int32)), (0, .ref n_t), (1, .ref n_p1), (2, .int x2)]) hx hb dX6_layOut_24 rfl hl (by decide) rfl (fun ls hl => ?_)
        exact L_25 F _ _ _ _ _ _ (lv_sub hl [1, 2, 3, 0] rfl) hP hD hS hm
      · replace hm := ifn c27 hm
        refine lv_aload_n hx hb dX6_layOut_10 rfl (lv_at hl 0 rfl) ?_
        refine va_get (D := (dC, dI)) (ci := 6) (v := .ref n_at) (C := RX6) (T := TX6) (N := 28) hx hb hts hinX6 hown hG.1 hP 0 rfl rfl 20 (by decide) k0 (fun _ h9 => h9) rfl dX6_layOut_11 ?_
        refine lv_iload_n hx hb dX6_layOut_14 rfl (lv_at hl 3 rfl) ?_
        refine lv_iconst (v := (0 : Int32)) hx hb dX6_layOut_15 (by decide) ?_
        obtain ⟨hi28, hm⟩ := chk_some hm
        refine va_iast hx hb hG.1 hP hD hS 2 0 rfl rfl hi28 dX6_layOut_16 (fun H locs hP hD hS => ?_)
        replace hP : va_P (dC, dI) vwCl (wd_4da35a k n_t n_p1 n_text n_readPage n_page n_trial n_book n_kept n_isKept n_seenStation n_seenOther n_seenWide n_seenWas n_sines n_at n_column n_gram n_right n_work v_thrown v_textSize v_place v_stations v_readStations v_doings v_seen v_seed v_wide v_up v_low r_sines (upd r_at (Int32.toNatClampNeg x3) (0 : Int32)) r_p1) H := hP
        replace hD : va_D A (wd_4da35a k n_t n_p1 n_text n_readPage n_page n_trial n_book n_kept n_isKept n_seenStation n_seenOther n_seenWide n_seenWas n_sines n_at n_column n_gram n_right n_work v_thrown v_textSize v_place v_stations v_readStations v_doings v_seen v_seed v_wide v_up v_low r_sines (upd r_at (Int32.toNatClampNeg x3) (0 : Int32)) r_p1) := hD
        obtain ⟨t29, et29⟩ : ∃ y : Int32, y = x3 + (1 : Int32) := ⟨_, rfl⟩
        replace hm := (nmd_eq et29).trans hm
        refine lv_iinc (v := t29) (lv' := [(3, .int t29), (0, .ref n_t), (1, .ref n_p1), (2, .int x2)]) hx hb dX6_layOut_17 hl (k := 3) rfl (by rw [et29]; rfl) (by decide) rfl (fun ls hl => ?_)
        refine lv_goto (tgt := 4) hx hb dX6_layOut_20 (by decide) ?_
        exact ih4 _ _ _ _ _ _ (lv_sub hl [1, 2, 3, 0] rfl) hP hD hS hm
  unfold f_X6_layOut at hm
  refine lv_iconst (v := (1 : Int32)) hx hb dX6_layOut_0 (by decide) ?_
  refine lv_istore_n (lv' := [(2, .int (1 : Int32)), (0, .ref n_t), (1, .ref n_p1)]) hx hb dX6_layOut_1 rfl hl (by decide) rfl (fun ls hl => ?_)
  refine lv_iconst (v := (0 : Int32)) hx hb dX6_layOut_2 (by decide) ?_
  refine lv_istore_n (lv' := [(3, .int (0 : Int32)), (2, .int (1 : Int32)), (0, .ref n_t), (1, .ref n_p1)]) hx hb dX6_layOut_3 rfl hl (by decide) rfl (fun ls hl => ?_)
  exact L_4 F _ _ _ _ _ _ (lv_sub hl [2, 3, 1, 0] rfl) hP hD hS hm
set_option maxRecDepth 100000 in
theorem m_X6_layOut (l : Launch) (dC : Nat → ClassId) (dI : Nat → Nat → Nat) (k : Nat → ClassId) (F : Nat) (sz : Nat) (n_t n_p1 n_text n_readPage n_page n_trial n_book n_kept n_isKept n_seenStation n_seenOther n_seenWide n_seenWas n_sines n_at n_column n_gram n_right n_work : Nat) (v_thrown : Int32) (v_textSize : Int32) (v_place : Int32) (v_stations : Int32) (v_readStations : Int32) (v_doings : Int32) (v_seen : Int32) (v_seed : Int64) (v_wide : Int32) (v_up : Int64) (v_low : Int64) (r_sines : Nat → Int32) (r_at : Nat → Int32) (r_p1 : Nat → Int32) {o_r_at : (Nat → Int32)} (hm : f_X6_layOut F r_sines r_at r_p1 = some o_r_at) : Met l yX6_layOut wsX6_layOut rm_X6_layOut (gPre dC dI k [.ref n_t, .ref n_p1] sz (wd_4da35a k n_t n_p1 n_text n_readPage n_page n_trial n_book n_kept n_isKept n_seenStation n_seenOther n_seenWide n_seenWas n_sines n_at n_column n_gram n_right n_work v_thrown v_textSize v_place v_stations v_readStations v_doings v_seen v_seed v_wide v_up v_low r_sines r_at r_p1)) (gQV dC dI (va_A (wd_4da35a k n_t n_p1 n_text n_readPage n_page n_trial n_book n_kept n_isKept n_seenStation n_seenOther n_seenWide n_seenWas n_sines n_at n_column n_gram n_right n_work v_thrown v_textSize v_place v_stations v_readStations v_doings v_seen v_seed v_wide v_up v_low r_sines r_at r_p1) sz) (wd_4da35a k n_t n_p1 n_text n_readPage n_page n_trial n_book n_kept n_isKept n_seenStation n_seenOther n_seenWide n_seenWas n_sines n_at n_column n_gram n_right n_work v_thrown v_textSize v_place v_stations v_readStations v_doings v_seen v_seed v_wide v_up v_low r_sines o_r_at r_p1)) 0 0 (va_A (wd_4da35a k n_t n_p1 n_text n_readPage n_page n_trial n_book n_kept n_isKept n_seenStation n_seenOther n_seenWide n_seenWas n_sines n_at n_column n_gram n_right n_work v_thrown v_textSize v_place v_stations v_readStations v_doings v_seen v_seed v_wide v_up v_low r_sines r_at r_p1) sz) := by
  refine g_entry (cc := cX6_layOut) (maxL := 9) (ret := none) (lv := [(0, .ref n_t), (1, .ref n_p1)]) (by decide +kernel) rfl (Nat.le_of_ble_eq_true rfl) rfl (fun p e s m below meth c ls hx hb hr hml hts hown hlk hnm hsz hG hA hP hD hS hl => ?_)
  exact k_X6_layOut hx hb hml hts hown hG hA F n_t n_p1 n_text n_readPage n_page n_trial n_book n_kept n_isKept n_seenStation n_seenOther n_seenWide n_seenWas n_sines n_at n_column n_gram n_right n_work v_thrown v_textSize v_place v_stations v_readStations v_doings v_seen v_seed v_wide v_up v_low r_sines r_at r_p1 o_r_at (fun pc H locs ls q_r_at hd ho hP hD hS => by cases ho; exact g_vret hx hb hr hlk hP hD hS hd) s.heap [] ls hl hP hD hS hm
end
section
set_option maxHeartbeats 4000000 in
set_option maxRecDepth 100000 in
theorem k_X6_missOf {p : Program} {l : Launch} {e : Env} {s : State} {m : MethodId} {args : Array Value} {below : List Frame} {meth : Method} {c : Code} {A : Nat → Prop} {Q : State → Prop} {dC : Nat → ClassId} {dI : Nat → Nat → Nat} {k : Nat → ClassId} (hx : p.tables.exec = Jvm.exec) (hb : c.code = cX6_missOf) (hml : c.maxLocals = 4) (hts : ∀ w ∈ wsX6_missOf, w.before args s = true) (hown : s.vm.findClass RX6 = some m.cls) (hG : gK dC dI k A s) (hA : ∀ q : Nat, s.heap.size ≤ q → A q) (n_t n_p1 n_text n_readPage n_page n_trial n_book n_kept n_isKept n_seenStation n_seenOther n_seenWide n_seenWas n_sines n_at n_column n_gram n_right n_work : Nat) (v_thrown : Int32) (v_textSize : Int32) (v_place : Int32) (v_stations : Int32) (v_readStations : Int32) (v_doings : Int32) (v_seen : Int32) (v_seed : Int64) (v_wide : Int32) (v_up : Int64) (v_low : Int64) (r_sines : Nat → Int32) (r_at : Nat → Int32) (r_p1 : Nat → Int32) (x2 : Int32) (x3 : Int32) (o_r : Int32) (RET : ∀ (pc : Nat) (H : Heap) (locs : List Loc) (ls : Array Slot) (v : Int32), decode cX6_missOf pc = .ok (.ireturn, 1) → some v = some o_r → va_P (dC, dI) vwCl (wd_4da35a k n_t n_p1 n_text n_readPage n_page n_trial n_book n_kept n_isKept n_seenStation n_seenOther n_seenWide n_seenWas n_sines n_at n_column n_gram n_right n_work v_thrown v_textSize v_place v_stations v_readStations v_doings v_seen v_seed v_wide v_up v_low r_sines r_at r_p1) H → va_D A (wd_4da35a k n_t n_p1 n_text n_readPage n_page n_trial n_book n_kept n_isKept n_seenStation n_seenOther n_seenWide n_seenWas n_sines n_at n_column n_gram n_right n_work v_thrown v_textSize v_place v_stations v_readStations v_doings v_seen v_seed v_wide v_up v_low r_sines r_at r_p1) → va_S A s.heap H locs → W p l e rm_X6_missOf s m args below meth c H locs 0 0 Q (F0 m pc ls [.int v])) (H : Heap) (locs : List Loc) (ls : Array Slot) (hl : lv_has ls 4 [(0, .ref n_t), (1, .ref n_p1), (2, .int x2), (3, .int x3)]) (hP : va_P (dC, dI) vwCl (wd_4da35a k n_t n_p1 n_text n_readPage n_page n_trial n_book n_kept n_isKept n_seenStation n_seenOther n_seenWide n_seenWas n_sines n_at n_column n_gram n_right n_work v_thrown v_textSize v_place v_stations v_readStations v_doings v_seen v_seed v_wide v_up v_low r_sines r_at r_p1) H) (hD : va_D A (wd_4da35a k n_t n_p1 n_text n_readPage n_page n_trial n_book n_kept n_isKept n_seenStation n_seenOther n_seenWide n_seenWas n_sines n_at n_column n_gram n_right n_work v_thrown v_textSize v_place v_stations v_readStations v_doings v_seen v_seed v_wide v_up v_low r_sines r_at r_p1)) (hS : va_S A s.heap H locs) (hm : f_X6_missOf x2 x3 r_sines r_at r_p1 = some o_r) : W p l e rm_X6_missOf s m args below meth c H locs 0 0 Q (F0 m 0 ls []) := by
  have hinX6 : ∀ w ∈ u_ws RX6 TX6 28, w ∈ wsX6_missOf := by decide +kernel
  have k0 := hts (.fieldLink RX6 51 "CaveLegsModel" "at" "[I") (by decide +kernel)
  unfold f_X6_missOf at hm
  refine lv_aload_n hx hb dX6_missOf_0 rfl (lv_at hl 0 rfl) ?_
  refine lv_aload_n hx hb dX6_missOf_1 rfl (lv_at hl 1 rfl) ?_
  refine lv_iload_n hx hb dX6_missOf_2 rfl (lv_at hl 2 rfl) ?_
  refine lv_iload_n hx hb dX6_missOf_3 rfl (lv_at hl 3 rfl) ?_
  obtain ⟨r1, e2, hm⟩ := bnd1_some hm
  refine g_calli (w2 := (wd_4da35a k n_t n_p1 n_text n_readPage n_page n_trial n_book n_kept n_isKept n_seenStation n_seenOther n_seenWide n_seenWas n_sines n_at n_column n_gram n_right n_work v_thrown v_textSize v_place v_stations v_readStations v_doings v_seen v_seed v_wide v_up v_low r_sines r_at r_p1)) (va_runV (As := [.ref n_p1, .int x2, .int x3]) (rest := []) ⟨hx, hb, hml, hown, hts⟩ (m_X6_stepOf l dC dI k H.size n_t n_p1 n_text n_readPage n_page n_trial n_book n_kept n_isKept n_seenStation n_seenOther n_seenWide n_seenWas n_sines n_at n_column n_gram n_right n_work v_thrown v_textSize v_place v_stations v_readStations v_doings v_seen v_seed v_wide v_up v_low r_sines r_p1 x2 x3 e2) (cwV 3 hts gX6_missOf_X6_stepOf rfl rfl rfl (by decide +kernel) ⟨Nat.le_of_ble_eq_true rfl, Nat.le_of_ble_eq_true rfl⟩) (g_preV hG hP hD hS hA [0, 1, 3] rfl (by decide) (ci := 6) (q0 := 0) rfl rfl) rfl rfl hl.1 rfl (lv_room (Nat.le_of_ble_eq_true rfl)) dX6_missOf_4 ⟨Nat.le_of_ble_eq_true rfl, Nat.le_of_ble_eq_true rfl⟩) hP hD hS hA [0, 1, 3] [2] [1, 2, 0, 3] rfl rfl (by decide) (by decide) rfl (by decide) (fun H locs hP hD hS => ?_)
  refine lv_aload_n hx hb dX6_missOf_7 rfl (lv_at hl 0 rfl) ?_
  refine va_get (D := (dC, dI)) (ci := 6) (v := .ref n_at) (C := RX6) (T := TX6) (N := 28) hx hb hts hinX6 hown hG.1 hP 0 rfl rfl 20 (by decide) k0 (fun _ h9 => h9) rfl dX6_missOf_8 ?_
  refine lv_iconst (v := (3 : Int32)) hx hb dX6_missOf_11 (by decide) ?_
  refine lv_aload_n hx hb dX6_missOf_12 rfl (lv_at hl 1 rfl) ?_
  refine lv_iload_n hx hb dX6_missOf_13 rfl (lv_at hl 2 rfl) ?_
  refine lv_iconst (v := (5 : Int32)) hx hb dX6_missOf_14 (by decide) ?_
  obtain ⟨r3, e4, hm⟩ := bnd1_some hm
  refine g_calli (w2 := (wd_4da35a k n_t n_p1 n_text n_readPage n_page n_trial n_book n_kept n_isKept n_seenStation n_seenOther n_seenWide n_seenWas n_sines n_at n_column n_gram n_right n_work v_thrown v_textSize v_place v_stations v_readStations v_doings v_seen v_seed v_wide v_up v_low r_sines r_at r_p1)) (va_runS (As := [.ref n_p1, .int x2, .int (5 : Int32)]) (rest := [.int (3 : Int32), .ref n_at, .int r1]) ⟨hx, hb, hml, hown, hts⟩ (m_X6_of l dC dI k H.size n_p1 r_p1 x2 (5 : Int32) e4) (va_cwS 3 hts gX6_missOf_X6_of rfl rfl rfl (by decide +kernel) ⟨Nat.le_of_ble_eq_true rfl, Nat.le_of_ble_eq_true rfl⟩) (g_preS hG hP hD hS hA [3] rfl (by decide)) rfl rfl hl.1 rfl (lv_room (Nat.le_of_ble_eq_true rfl)) dX6_missOf_15 ⟨Nat.le_of_ble_eq_true rfl, Nat.le_of_ble_eq_true rfl⟩) hP hD hS hA [3] [0, 1, 2] [0, 1, 2, 3] rfl rfl (by decide) (by decide) rfl (by decide) (fun H locs hP hD hS => ?_)
  refine lv_imul hx hb dX6_missOf_18 ?_
  refine lv_iload_n hx hb dX6_missOf_19 rfl (lv_at hl 3 rfl) ?_
  refine lv_iadd hx hb dX6_missOf_20 ?_
  obtain ⟨hi5, hm⟩ := chk_some hm
  refine va_iald hx hb hG.1 hP 2 0 rfl rfl hi5 dX6_missOf_21 ?_
  refine lv_isub hx hb dX6_missOf_22 ?_
  refine lv_aload_n hx hb dX6_missOf_23 rfl (lv_at hl 0 rfl) ?_
  refine va_get (D := (dC, dI)) (ci := 6) (v := .ref n_at) (C := RX6) (T := TX6) (N := 28) hx hb hts hinX6 hown hG.1 hP 0 rfl rfl 20 (by decide) k0 (fun _ h9 => h9) rfl dX6_missOf_24 ?_
  refine lv_iconst (v := (3 : Int32)) hx hb dX6_missOf_27 (by decide) ?_
  refine lv_aload_n hx hb dX6_missOf_28 rfl (lv_at hl 1 rfl) ?_
  refine lv_iload_n hx hb dX6_missOf_29 rfl (lv_at hl 2 rfl) ?_
  refine lv_iconst (v := (4 : Int32)) hx hb dX6_missOf_30 (by decide) ?_
  obtain ⟨r6, e7, hm⟩ := bnd1_some hm
  refine g_calli (w2 := (wd_4da35a k n_t n_p1 n_text n_readPage n_page n_trial n_book n_kept n_isKept n_seenStation n_seenOther n_seenWide n_seenWas n_sines n_at n_column n_gram n_right n_work v_thrown v_textSize v_place v_stations v_readStations v_doings v_seen v_seed v_wide v_up v_low r_sines r_at r_p1)) (va_runS (As := [.ref n_p1, .int x2, .int (4 : Int32)]) (rest := [.int (3 : Int32), .ref n_at, .int (r1 - (r_at (Int32.toNatClampNeg (((3 : Int32) * r3) + x3))))]) ⟨hx, hb, hml, hown, hts⟩ (m_X6_of l dC dI k H.size n_p1 r_p1 x2 (4 : Int32) e7) (va_cwS 3 hts gX6_missOf_X6_of rfl rfl rfl (by decide +kernel) ⟨Nat.le_of_ble_eq_true rfl, Nat.le_of_ble_eq_true rfl⟩) (g_preS hG hP hD hS hA [3] rfl (by decide)) rfl rfl hl.1 rfl (lv_room (Nat.le_of_ble_eq_true rfl)) dX6_missOf_31 ⟨Nat.le_of_ble_eq_true rfl, Nat.le_of_ble_eq_true rfl⟩) hP hD hS hA [3] [0, 1, 2] [0, 1, 2, 3] rfl rfl (by decide) (by decide) rfl (by decide) (fun H locs hP hD hS => ?_)
  refine lv_imul hx hb dX6_missOf_34 ?_
  refine lv_iload_n hx hb dX6_missOf_35 rfl (lv_at hl 3 rfl) ?_
  refine lv_iadd hx hb dX6_missOf_36 ?_
  obtain ⟨hi8, hm⟩ := chk_some hm
  refine va_iald hx hb hG.1 hP 2 0 rfl rfl hi8 dX6_missOf_37 ?_
  refine lv_iadd hx hb dX6_missOf_38 ?_
  exact RET _ _ _ _ _ dX6_missOf_39 hm hP hD hS
set_option maxRecDepth 100000 in
theorem m_X6_missOf (l : Launch) (dC : Nat → ClassId) (dI : Nat → Nat → Nat) (k : Nat → ClassId) (sz : Nat) (n_t n_p1 n_text n_readPage n_page n_trial n_book n_kept n_isKept n_seenStation n_seenOther n_seenWide n_seenWas n_sines n_at n_column n_gram n_right n_work : Nat) (v_thrown : Int32) (v_textSize : Int32) (v_place : Int32) (v_stations : Int32) (v_readStations : Int32) (v_doings : Int32) (v_seen : Int32) (v_seed : Int64) (v_wide : Int32) (v_up : Int64) (v_low : Int64) (r_sines : Nat → Int32) (r_at : Nat → Int32) (r_p1 : Nat → Int32) (x2 : Int32) (x3 : Int32) {o_r : Int32} (hm : f_X6_missOf x2 x3 r_sines r_at r_p1 = some o_r) : Met l yX6_missOf wsX6_missOf rm_X6_missOf (gPre dC dI k [.ref n_t, .ref n_p1, .int x2, .int x3] sz (wd_4da35a k n_t n_p1 n_text n_readPage n_page n_trial n_book n_kept n_isKept n_seenStation n_seenOther n_seenWide n_seenWas n_sines n_at n_column n_gram n_right n_work v_thrown v_textSize v_place v_stations v_readStations v_doings v_seen v_seed v_wide v_up v_low r_sines r_at r_p1)) (gQI dC dI (va_A (wd_4da35a k n_t n_p1 n_text n_readPage n_page n_trial n_book n_kept n_isKept n_seenStation n_seenOther n_seenWide n_seenWas n_sines n_at n_column n_gram n_right n_work v_thrown v_textSize v_place v_stations v_readStations v_doings v_seen v_seed v_wide v_up v_low r_sines r_at r_p1) sz) o_r (wd_4da35a k n_t n_p1 n_text n_readPage n_page n_trial n_book n_kept n_isKept n_seenStation n_seenOther n_seenWide n_seenWas n_sines n_at n_column n_gram n_right n_work v_thrown v_textSize v_place v_stations v_readStations v_doings v_seen v_seed v_wide v_up v_low r_sines r_at r_p1)) 0 0 (va_A (wd_4da35a k n_t n_p1 n_text n_readPage n_page n_trial n_book n_kept n_isKept n_seenStation n_seenOther n_seenWide n_seenWas n_sines n_at n_column n_gram n_right n_work v_thrown v_textSize v_place v_stations v_readStations v_doings v_seen v_seed v_wide v_up v_low r_sines r_at r_p1) sz) := by
  refine g_entry (cc := cX6_missOf) (maxL := 4) (ret := (some .int)) (lv := [(0, .ref n_t), (1, .ref n_p1), (2, .int x2), (3, .int x3)]) (by decide +kernel) rfl (Nat.le_of_ble_eq_true rfl) rfl (fun p e s m below meth c ls hx hb hr hml hts hown hlk hnm hsz hG hA hP hD hS hl => ?_)
  exact k_X6_missOf hx hb hml hts hown hG hA n_t n_p1 n_text n_readPage n_page n_trial n_book n_kept n_isKept n_seenStation n_seenOther n_seenWide n_seenWas n_sines n_at n_column n_gram n_right n_work v_thrown v_textSize v_place v_stations v_readStations v_doings v_seen v_seed v_wide v_up v_low r_sines r_at r_p1 x2 x3 o_r (fun pc H locs ls v hd ho hP hD hS => by cases ho; exact g_ireti hx hb hr hlk hP hD hS hd) s.heap [] ls hl hP hD hS hm
end
section
set_option maxHeartbeats 4000000 in
set_option maxRecDepth 100000 in
theorem k_X6_laid {p : Program} {l : Launch} {e : Env} {s : State} {m : MethodId} {args : Array Value} {below : List Frame} {meth : Method} {c : Code} {A : Nat → Prop} {Q : State → Prop} {dC : Nat → ClassId} {dI : Nat → Nat → Nat} {k : Nat → ClassId} (hx : p.tables.exec = Jvm.exec) (hb : c.code = cX6_laid) (hml : c.maxLocals = 3) (hts : ∀ w ∈ wsX6_laid, w.before args s = true) (hown : s.vm.findClass RX6 = some m.cls) (hG : gK dC dI k A s) (hA : ∀ q : Nat, s.heap.size ≤ q → A q) (F : Nat) (n_t n_text n_readPage n_page n_trial n_book n_kept n_isKept n_seenStation n_seenOther n_seenWide n_seenWas n_sines n_at n_column n_gram n_right n_work : Nat) (v_thrown : Int32) (v_textSize : Int32) (v_place : Int32) (v_stations : Int32) (v_readStations : Int32) (v_doings : Int32) (v_seen : Int32) (v_seed : Int64) (v_wide : Int32) (v_up : Int64) (v_low : Int64) (r_page : Nat → Int32) (r_sines : Nat → Int32) (r_at : Nat → Int32) (x1 : Int32) (x2 : Int32) (o_r : Int32) (o_v_thrown : (Int32)) (o_r_at : (Nat → Int32)) (RET : ∀ (pc : Nat) (H : Heap) (locs : List Loc) (ls : Array Slot) (v : Int32) (q_v_thrown : Int32) (q_r_at : Nat → Int32), decode cX6_laid pc = .ok (.ireturn, 1) → some (v, q_v_thrown, q_r_at) = some (o_r, o_v_thrown, o_r_at) → va_P (dC, dI) vwCl (wd_fbc8b5 k n_t n_text n_readPage n_page n_trial n_book n_kept n_isKept n_seenStation n_seenOther n_seenWide n_seenWas n_sines n_at n_column n_gram n_right n_work q_v_thrown v_textSize v_place v_stations v_readStations v_doings v_seen v_seed v_wide v_up v_low r_page r_sines q_r_at) H → va_D A (wd_fbc8b5 k n_t n_text n_readPage n_page n_trial n_book n_kept n_isKept n_seenStation n_seenOther n_seenWide n_seenWas n_sines n_at n_column n_gram n_right n_work q_v_thrown v_textSize v_place v_stations v_readStations v_doings v_seen v_seed v_wide v_up v_low r_page r_sines q_r_at) → va_S A s.heap H locs → W p l e rm_X6_laid s m args below meth c H locs 0 0 Q (F0 m pc ls [.int v])) (H : Heap) (locs : List Loc) (ls : Array Slot) (hl : lv_has ls 3 [(0, .ref n_t), (1, .int x1), (2, .int x2)]) (hP : va_P (dC, dI) vwCl (wd_fbc8b5 k n_t n_text n_readPage n_page n_trial n_book n_kept n_isKept n_seenStation n_seenOther n_seenWide n_seenWas n_sines n_at n_column n_gram n_right n_work v_thrown v_textSize v_place v_stations v_readStations v_doings v_seen v_seed v_wide v_up v_low r_page r_sines r_at) H) (hD : va_D A (wd_fbc8b5 k n_t n_text n_readPage n_page n_trial n_book n_kept n_isKept n_seenStation n_seenOther n_seenWide n_seenWas n_sines n_at n_column n_gram n_right n_work v_thrown v_textSize v_place v_stations v_readStations v_doings v_seen v_seed v_wide v_up v_low r_page r_sines r_at)) (hS : va_S A s.heap H locs) (hm : f_X6_laid F x1 x2 v_thrown v_stations r_page r_sines r_at = some (o_r, o_v_thrown, o_r_at)) : W p l e rm_X6_laid s m args below meth c H locs 0 0 Q (F0 m 0 ls []) := by
  have hinX6 : ∀ w ∈ u_ws RX6 TX6 28, w ∈ wsX6_laid := by decide +kernel
  have k0 := hts (.fieldLink RX6 67 "CaveLegsModel" "thrown" "I") (by decide +kernel)
  have k1 := hts (.constantLong RX6 166 (2)) (by decide +kernel)
  have k2 := hts (.fieldLink RX6 20 "CaveLegsModel" "page" "[I") (by decide +kernel)
  have k3 := hts (.fieldLink RX6 51 "CaveLegsModel" "at" "[I") (by decide +kernel)
  unfold f_X6_laid at hm
  refine lv_aload_n hx hb dX6_laid_0 rfl (lv_at hl 0 rfl) ?_
  refine lv_iconst (v := (0 : Int32)) hx hb dX6_laid_1 (by decide) ?_
  refine va_put (D := (dC, dI)) (ci := 6) (v := .int (0 : Int32)) (ty := .int) (C := RX6) (T := TX6) (N := 28) hx hb hts hinX6 tyX6 tyX6_ok nmX6 hown hG.1 hP hD hS 0 rfl rfl 0 (by decide) k0 (fun _ h9 => h9) rfl (by decide +kernel) rfl rfl (Nat.le_of_ble_eq_true rfl) dX6_laid_2 (fun H locs hP hD hS => ?_)
  replace hP : va_P (dC, dI) vwCl (wd_fbc8b5 k n_t n_text n_readPage n_page n_trial n_book n_kept n_isKept n_seenStation n_seenOther n_seenWide n_seenWas n_sines n_at n_column n_gram n_right n_work (0 : Int32) v_textSize v_place v_stations v_readStations v_doings v_seen v_seed v_wide v_up v_low r_page r_sines r_at) H := hP
  replace hD : va_D A (wd_fbc8b5 k n_t n_text n_readPage n_page n_trial n_book n_kept n_isKept n_seenStation n_seenOther n_seenWide n_seenWas n_sines n_at n_column n_gram n_right n_work (0 : Int32) v_textSize v_place v_stations v_readStations v_doings v_seen v_seed v_wide v_up v_low r_page r_sines r_at) := hD
  refine lv_aload_n hx hb dX6_laid_5 rfl (lv_at hl 0 rfl) ?_
  refine lv_iload_n hx hb dX6_laid_6 rfl (lv_at hl 1 rfl) ?_
  obtain ⟨r1, e2, hm⟩ := bnd1_some hm
  refine g_calli (w2 := (wd_fbc8b5 k n_t n_text n_readPage n_page n_trial n_book n_kept n_isKept n_seenStation n_seenOther n_seenWide n_seenWas n_sines n_at n_column n_gram n_right n_work (0 : Int32) v_textSize v_place v_stations v_readStations v_doings v_seen v_seed v_wide v_up v_low r_page r_sines r_at)) (va_runV (As := [.int x1]) (rest := []) ⟨hx, hb, hml, hown, hts⟩ (m_X6_noStation l dC dI k H.size n_t n_text n_readPage n_page n_trial n_book n_kept n_isKept n_seenStation n_seenOther n_seenWide n_seenWas n_sines n_at n_column n_gram n_right n_work (0 : Int32) v_textSize v_place v_stations v_readStations v_doings v_seen v_seed v_wide v_up v_low x1 e2) (cwV 1 hts gX6_laid_X6_noStation rfl rfl rfl (by decide +kernel) ⟨Nat.le_of_ble_eq_true rfl, Nat.le_of_ble_eq_true rfl⟩) (g_preV hG hP hD hS hA [0] rfl (by decide) (ci := 6) (q0 := 0) rfl rfl) rfl rfl hl.1 rfl (lv_room (Nat.le_of_ble_eq_true rfl)) dX6_laid_7 ⟨Nat.le_of_ble_eq_true rfl, Nat.le_of_ble_eq_true rfl⟩) hP hD hS hA [0] [1, 2, 3] [3, 0, 1, 2] rfl rfl (by decide) (by decide) rfl (by decide) (fun H locs hP hD hS => ?_)
  refine lv_if_eq (tgt := 15) hx hb dX6_laid_10 (by decide) (fun c3 => ?_) (fun c3 => ?_)
  · replace hm := ifp c3 hm
    refine lv_iload_n hx hb dX6_laid_15 rfl (lv_at hl 2 rfl) ?_
    refine g_i2l hx hb dX6_laid_16 ?_
    refine lv_lconst (v := (0 : Int64)) hx hb dX6_laid_17 (by decide) ?_
    refine lv_ldc2 (v := (2 : Int64)) hx hb hown k1 dX6_laid_18 ?_
    obtain ⟨r4, e5, hm⟩ := bnd1_some hm
    refine g_calli (w2 := (wd_fbc8b5 k n_t n_text n_readPage n_page n_trial n_book n_kept n_isKept n_seenStation n_seenOther n_seenWide n_seenWas n_sines n_at n_column n_gram n_right n_work (0 : Int32) v_textSize v_place v_stations v_readStations v_doings v_seen v_seed v_wide v_up v_low r_page r_sines r_at)) (va_runS (As := [.long (Int32.toInt64 x2), .long (0 : Int64), .long (2 : Int64)]) (rest := []) ⟨hx, hb, hml, hown, hts⟩ (m_X6_in l dC dI k H.size  (Int32.toInt64 x2) (0 : Int64) (2 : Int64) e5) (va_cwS 3 hts gX6_laid_X6_in rfl rfl rfl (by decide +kernel) ⟨Nat.le_of_ble_eq_true rfl, Nat.le_of_ble_eq_true rfl⟩) (g_preS hG hP hD hS hA [] rfl (by decide)) rfl rfl hl.1 rfl (lv_room (Nat.le_of_ble_eq_true rfl)) dX6_laid_21 ⟨Nat.le_of_ble_eq_true rfl, Nat.le_of_ble_eq_true rfl⟩) hP hD hS hA [] [0, 1, 2, 3] [0, 1, 2, 3] rfl rfl (by decide) (by decide) rfl (by decide) (fun H locs hP hD hS => ?_)
    refine lv_if_ne (tgt := 30) hx hb dX6_laid_24 (by decide) (fun c6 => ?_) (fun c6 => ?_)
    · replace hm := ifn c6 hm
      refine lv_aload_n hx hb dX6_laid_30 rfl (lv_at hl 0 rfl) ?_
      refine lv_aload_n hx hb dX6_laid_31 rfl (lv_at hl 0 rfl) ?_
      refine va_get (D := (dC, dI)) (ci := 6) (v := .ref n_page) (C := RX6) (T := TX6) (N := 28) hx hb hts hinX6 hown hG.1 hP 0 rfl rfl 7 (by decide) k2 (fun _ h9 => h9) rfl dX6_laid_32 ?_
      refine lv_aload_n hx hb dX6_laid_35 rfl (lv_at hl 0 rfl) ?_
      refine va_get (D := (dC, dI)) (ci := 6) (v := .ref n_page) (C := RX6) (T := TX6) (N := 28) hx hb hts hinX6 hown hG.1 hP 0 rfl rfl 7 (by decide) k2 (fun _ h9 => h9) rfl dX6_laid_36 ?_
      obtain ⟨r7, e8, hm⟩ := bnd1_some hm
      refine g_calli (w2 := (wd_fbc8b5 k n_t n_text n_readPage n_page n_trial n_book n_kept n_isKept n_seenStation n_seenOther n_seenWide n_seenWas n_sines n_at n_column n_gram n_right n_work (0 : Int32) v_textSize v_place v_stations v_readStations v_doings v_seen v_seed v_wide v_up v_low r_page r_sines r_at)) (va_runS (As := [.ref n_page]) (rest := [.ref n_page, .ref n_t]) ⟨hx, hb, hml, hown, hts⟩ (m_X6_all l dC dI k H.size n_page r_page  e8) (va_cwS 1 hts gX6_laid_X6_all rfl rfl rfl (by decide +kernel) ⟨Nat.le_of_ble_eq_true rfl, Nat.le_of_ble_eq_true rfl⟩) (g_preS hG hP hD hS hA [1] rfl (by decide)) rfl rfl hl.1 rfl (lv_room (Nat.le_of_ble_eq_true rfl)) dX6_laid_39 ⟨Nat.le_of_ble_eq_true rfl, Nat.le_of_ble_eq_true rfl⟩) hP hD hS hA [1] [0, 2, 3] [0, 3, 1, 2] rfl rfl (by decide) (by decide) rfl (by decide) (fun H locs hP hD hS => ?_)
      obtain ⟨r9, e10, hm⟩ := bnd1_some hm
      refine g_calli (w2 := (wd_fbc8b5 k n_t n_text n_readPage n_page n_trial n_book n_kept n_isKept n_seenStation n_seenOther n_seenWide n_seenWas n_sines n_at n_column n_gram n_right n_work (0 : Int32) v_textSize v_place v_stations v_readStations v_doings v_seen v_seed v_wide v_up v_low r_page r_sines r_at)) (va_runV (As := [.ref n_page, .int r7]) (rest := []) ⟨hx, hb, hml, hown, hts⟩ (m_X6_tiedBy l dC dI k F H.size n_t n_page n_text n_readPage n_page n_trial n_book n_kept n_isKept n_seenStation n_seenOther n_seenWide n_seenWas n_sines n_at n_column n_gram n_right n_work (0 : Int32) v_textSize v_place v_stations v_readStations v_doings v_seen v_seed v_wide v_up v_low r_page r7 e10) (cwV 2 hts gX6_laid_X6_tiedBy rfl rfl rfl (by decide +kernel) ⟨Nat.le_of_ble_eq_true rfl, Nat.le_of_ble_eq_true rfl⟩) (g_preV hG hP hD hS hA [0, 1] rfl (by decide) (ci := 6) (q0 := 0) rfl rfl) rfl rfl hl.1 rfl (lv_room (Nat.le_of_ble_eq_true rfl)) dX6_laid_42 ⟨Nat.le_of_ble_eq_true rfl, Nat.le_of_ble_eq_true rfl⟩) hP hD hS hA [0, 1] [2, 3] [2, 3, 0, 1] rfl rfl (by decide) (by decide) rfl (by decide) (fun H locs hP hD hS => ?_)
      refine lv_iload_n hx hb dX6_laid_45 rfl (lv_at hl 1 rfl) ?_
      obtain ⟨r11, e12, hm⟩ := bnd1_some hm
      refine g_calli (w2 := (wd_fbc8b5 k n_t n_text n_readPage n_page n_trial n_book n_kept n_isKept n_seenStation n_seenOther n_seenWide n_seenWas n_sines n_at n_column n_gram n_right n_work (0 : Int32) v_textSize v_place v_stations v_readStations v_doings v_seen v_seed v_wide v_up v_low r_page r_sines r_at)) (va_runS (As := [.int r9, .int x1]) (rest := []) ⟨hx, hb, hml, hown, hts⟩ (m_X6_has l dC dI k H.size  r9 x1 e12) (va_cwS 2 hts gX6_laid_X6_has rfl rfl rfl (by decide +kernel) ⟨Nat.le_of_ble_eq_true rfl, Nat.le_of_ble_eq_true rfl⟩) (g_preS hG hP hD hS hA [] rfl (by decide)) rfl rfl hl.1 rfl (lv_room (Nat.le_of_ble_eq_true rfl)) dX6_laid_46 ⟨Nat.le_of_ble_eq_true rfl, Nat.le_of_ble_eq_true rfl⟩) hP hD hS hA [] [0, 1, 2, 3] [0, 1, 2, 3] rfl rfl (by decide) (by decide) rfl (by decide) (fun H locs hP hD hS => ?_)
      refine lv_if_ne (tgt := 55) hx hb dX6_laid_49 (by decide) (fun c13 => ?_) (fun c13 => ?_)
      · replace hm := ifn c13 hm
        refine lv_aload_n hx hb dX6_laid_55 rfl (lv_at hl 0 rfl) ?_
        refine lv_aload_n hx hb dX6_laid_56 rfl (lv_at hl 0 rfl) ?_
        refine va_get (D := (dC, dI)) (ci := 6) (v := .ref n_page) (C := RX6) (T := TX6) (N := 28) hx hb hts hinX6 hown hG.1 hP 0 rfl rfl 7 (by decide) k2 (fun _ h9 => h9) rfl dX6_laid_57 ?_
        obtain ⟨w14, e15, hm⟩ := bnd1_some hm
        refine g_callv (w2 := (wd_fbc8b5 k n_t n_text n_readPage n_page n_trial n_book n_kept n_isKept n_seenStation n_seenOther n_seenWide n_seenWas n_sines n_at n_column n_gram n_right n_work (0 : Int32) v_textSize v_place v_stations v_readStations v_doings v_seen v_seed v_wide v_up v_low r_page r_sines w14)) (va_runV (As := [.ref n_page]) (rest := []) ⟨hx, hb, hml, hown, hts⟩ (m_X6_layOut l dC dI k F H.size n_t n_page n_text n_readPage n_page n_trial n_book n_kept n_isKept n_seenStation n_seenOther n_seenWide n_seenWas n_sines n_at n_column n_gram n_right n_work (0 : Int32) v_textSize v_place v_stations v_readStations v_doings v_seen v_seed v_wide v_up v_low r_sines r_at r_page  e15) (cwV 1 hts gX6_laid_X6_layOut rfl rfl rfl (by decide +kernel) ⟨Nat.le_of_ble_eq_true rfl, Nat.le_of_ble_eq_true rfl⟩) (g_preV hG hP hD hS hA [0, 2, 3, 1] rfl (by decide) (ci := 6) (q0 := 0) rfl rfl) rfl rfl hl.1 rfl (lv_room (Nat.le_of_ble_eq_true rfl)) dX6_laid_60 ⟨Nat.le_of_ble_eq_true rfl, Nat.le_of_ble_eq_true rfl⟩) hP hD hS hA [0, 2, 3, 1] [] [0, 3, 1, 2] rfl rfl (by decide) (by decide) rfl (by decide) (fun H locs hP hD hS => ?_)
        refine lv_aload_n hx hb dX6_laid_63 rfl (lv_at hl 0 rfl) ?_
        refine va_get (D := (dC, dI)) (ci := 6) (v := .ref n_at) (C := RX6) (T := TX6) (N := 28) hx hb hts hinX6 hown hG.1 hP 0 rfl rfl 20 (by decide) k3 (fun _ h9 => h9) rfl dX6_laid_64 ?_
        refine lv_iconst (v := (3 : Int32)) hx hb dX6_laid_67 (by decide) ?_
        refine lv_iload_n hx hb dX6_laid_68 rfl (lv_at hl 1 rfl) ?_
        refine lv_imul hx hb dX6_laid_69 ?_
        refine lv_iload_n hx hb dX6_laid_70 rfl (lv_at hl 2 rfl) ?_
        refine lv_iadd hx hb dX6_laid_71 ?_
        obtain ⟨hi16, hm⟩ := chk_some hm
        refine va_iald hx hb hG.1 hP 3 0 rfl rfl hi16 dX6_laid_72 ?_
        refine lv_sipush (v := (1000 : Int32)) hx hb dX6_laid_73 (by decide) ?_
        refine lv_iadd hx hb dX6_laid_76 ?_
        exact RET _ _ _ _ _ _ _ dX6_laid_77 hm hP hD hS
      · replace hm := ifp c13 hm
        refine lv_bipush (v := (-3 : Int32)) hx hb dX6_laid_52 (by decide) ?_
        exact RET _ _ _ _ _ _ _ dX6_laid_54 hm hP hD hS
    · replace hm := ifp c6 hm
      refine lv_bipush (v := (-2 : Int32)) hx hb dX6_laid_27 (by decide) ?_
      exact RET _ _ _ _ _ _ _ dX6_laid_29 hm hP hD hS
  · replace hm := ifn c3 hm
    refine lv_iconst (v := (-1 : Int32)) hx hb dX6_laid_13 (by decide) ?_
    exact RET _ _ _ _ _ _ _ dX6_laid_14 hm hP hD hS
set_option maxRecDepth 100000 in
theorem m_X6_laid (l : Launch) (dC : Nat → ClassId) (dI : Nat → Nat → Nat) (k : Nat → ClassId) (F : Nat) (sz : Nat) (n_t n_text n_readPage n_page n_trial n_book n_kept n_isKept n_seenStation n_seenOther n_seenWide n_seenWas n_sines n_at n_column n_gram n_right n_work : Nat) (v_thrown : Int32) (v_textSize : Int32) (v_place : Int32) (v_stations : Int32) (v_readStations : Int32) (v_doings : Int32) (v_seen : Int32) (v_seed : Int64) (v_wide : Int32) (v_up : Int64) (v_low : Int64) (r_page : Nat → Int32) (r_sines : Nat → Int32) (r_at : Nat → Int32) (x1 : Int32) (x2 : Int32) {o_r : Int32} {o_v_thrown : (Int32)} {o_r_at : (Nat → Int32)} (hm : f_X6_laid F x1 x2 v_thrown v_stations r_page r_sines r_at = some (o_r, o_v_thrown, o_r_at)) : Met l yX6_laid wsX6_laid rm_X6_laid (gPre dC dI k [.ref n_t, .int x1, .int x2] sz (wd_fbc8b5 k n_t n_text n_readPage n_page n_trial n_book n_kept n_isKept n_seenStation n_seenOther n_seenWide n_seenWas n_sines n_at n_column n_gram n_right n_work v_thrown v_textSize v_place v_stations v_readStations v_doings v_seen v_seed v_wide v_up v_low r_page r_sines r_at)) (gQI dC dI (va_A (wd_fbc8b5 k n_t n_text n_readPage n_page n_trial n_book n_kept n_isKept n_seenStation n_seenOther n_seenWide n_seenWas n_sines n_at n_column n_gram n_right n_work v_thrown v_textSize v_place v_stations v_readStations v_doings v_seen v_seed v_wide v_up v_low r_page r_sines r_at) sz) o_r (wd_fbc8b5 k n_t n_text n_readPage n_page n_trial n_book n_kept n_isKept n_seenStation n_seenOther n_seenWide n_seenWas n_sines n_at n_column n_gram n_right n_work o_v_thrown v_textSize v_place v_stations v_readStations v_doings v_seen v_seed v_wide v_up v_low r_page r_sines o_r_at)) 0 0 (va_A (wd_fbc8b5 k n_t n_text n_readPage n_page n_trial n_book n_kept n_isKept n_seenStation n_seenOther n_seenWide n_seenWas n_sines n_at n_column n_gram n_right n_work v_thrown v_textSize v_place v_stations v_readStations v_doings v_seen v_seed v_wide v_up v_low r_page r_sines r_at) sz) := by
  refine g_entry (cc := cX6_laid) (maxL := 3) (ret := (some .int)) (lv := [(0, .ref n_t), (1, .int x1), (2, .int x2)]) (by decide +kernel) rfl (Nat.le_of_ble_eq_true rfl) rfl (fun p e s m below meth c ls hx hb hr hml hts hown hlk hnm hsz hG hA hP hD hS hl => ?_)
  exact k_X6_laid hx hb hml hts hown hG hA F n_t n_text n_readPage n_page n_trial n_book n_kept n_isKept n_seenStation n_seenOther n_seenWide n_seenWas n_sines n_at n_column n_gram n_right n_work v_thrown v_textSize v_place v_stations v_readStations v_doings v_seen v_seed v_wide v_up v_low r_page r_sines r_at x1 x2 o_r o_v_thrown o_r_at (fun pc H locs ls v q_v_thrown q_r_at hd ho hP hD hS => by cases ho; exact g_ireti hx hb hr hlk hP hD hS hd) s.heap [] ls hl hP hD hS hm
end
section
set_option maxHeartbeats 4000000 in
set_option maxRecDepth 100000 in
theorem k_X6_miss {p : Program} {l : Launch} {e : Env} {s : State} {m : MethodId} {args : Array Value} {below : List Frame} {meth : Method} {c : Code} {A : Nat → Prop} {Q : State → Prop} {dC : Nat → ClassId} {dI : Nat → Nat → Nat} {k : Nat → ClassId} (hx : p.tables.exec = Jvm.exec) (hb : c.code = cX6_miss) (hml : c.maxLocals = 3) (hts : ∀ w ∈ wsX6_miss, w.before args s = true) (hown : s.vm.findClass RX6 = some m.cls) (hG : gK dC dI k A s) (hA : ∀ q : Nat, s.heap.size ≤ q → A q) (F : Nat) (n_t n_text n_readPage n_page n_trial n_book n_kept n_isKept n_seenStation n_seenOther n_seenWide n_seenWas n_sines n_at n_column n_gram n_right n_work : Nat) (v_thrown : Int32) (v_textSize : Int32) (v_place : Int32) (v_stations : Int32) (v_readStations : Int32) (v_doings : Int32) (v_seen : Int32) (v_seed : Int64) (v_wide : Int32) (v_up : Int64) (v_low : Int64) (r_page : Nat → Int32) (r_sines : Nat → Int32) (r_at : Nat → Int32) (x1 : Int32) (x2 : Int32) (o_r : Int32) (o_v_thrown : (Int32)) (o_r_at : (Nat → Int32)) (RET : ∀ (pc : Nat) (H : Heap) (locs : List Loc) (ls : Array Slot) (v : Int32) (q_v_thrown : Int32) (q_r_at : Nat → Int32), decode cX6_miss pc = .ok (.ireturn, 1) → some (v, q_v_thrown, q_r_at) = some (o_r, o_v_thrown, o_r_at) → va_P (dC, dI) vwCl (wd_fbc8b5 k n_t n_text n_readPage n_page n_trial n_book n_kept n_isKept n_seenStation n_seenOther n_seenWide n_seenWas n_sines n_at n_column n_gram n_right n_work q_v_thrown v_textSize v_place v_stations v_readStations v_doings v_seen v_seed v_wide v_up v_low r_page r_sines q_r_at) H → va_D A (wd_fbc8b5 k n_t n_text n_readPage n_page n_trial n_book n_kept n_isKept n_seenStation n_seenOther n_seenWide n_seenWas n_sines n_at n_column n_gram n_right n_work q_v_thrown v_textSize v_place v_stations v_readStations v_doings v_seen v_seed v_wide v_up v_low r_page r_sines q_r_at) → va_S A s.heap H locs → W p l e rm_X6_miss s m args below meth c H locs 0 0 Q (F0 m pc ls [.int v])) (H : Heap) (locs : List Loc) (ls : Array Slot) (hl : lv_has ls 3 [(0, .ref n_t), (1, .int x1), (2, .int x2)]) (hP : va_P (dC, dI) vwCl (wd_fbc8b5 k n_t n_text n_readPage n_page n_trial n_book n_kept n_isKept n_seenStation n_seenOther n_seenWide n_seenWas n_sines n_at n_column n_gram n_right n_work v_thrown v_textSize v_place v_stations v_readStations v_doings v_seen v_seed v_wide v_up v_low r_page r_sines r_at) H) (hD : va_D A (wd_fbc8b5 k n_t n_text n_readPage n_page n_trial n_book n_kept n_isKept n_seenStation n_seenOther n_seenWide n_seenWas n_sines n_at n_column n_gram n_right n_work v_thrown v_textSize v_place v_stations v_readStations v_doings v_seen v_seed v_wide v_up v_low r_page r_sines r_at)) (hS : va_S A s.heap H locs) (hm : f_X6_miss F x1 x2 v_thrown r_page r_sines r_at = some (o_r, o_v_thrown, o_r_at)) : W p l e rm_X6_miss s m args below meth c H locs 0 0 Q (F0 m 0 ls []) := by
  have hinX6 : ∀ w ∈ u_ws RX6 TX6 28, w ∈ wsX6_miss := by decide +kernel
  have k0 := hts (.fieldLink RX6 67 "CaveLegsModel" "thrown" "I") (by decide +kernel)
  have k1 := hts (.constantLong RX6 166 (2)) (by decide +kernel)
  have k2 := hts (.fieldLink RX6 20 "CaveLegsModel" "page" "[I") (by decide +kernel)
  unfold f_X6_miss at hm
  refine lv_aload_n hx hb dX6_miss_0 rfl (lv_at hl 0 rfl) ?_
  refine lv_iconst (v := (0 : Int32)) hx hb dX6_miss_1 (by decide) ?_
  refine va_put (D := (dC, dI)) (ci := 6) (v := .int (0 : Int32)) (ty := .int) (C := RX6) (T := TX6) (N := 28) hx hb hts hinX6 tyX6 tyX6_ok nmX6 hown hG.1 hP hD hS 0 rfl rfl 0 (by decide) k0 (fun _ h9 => h9) rfl (by decide +kernel) rfl rfl (Nat.le_of_ble_eq_true rfl) dX6_miss_2 (fun H locs hP hD hS => ?_)
  replace hP : va_P (dC, dI) vwCl (wd_fbc8b5 k n_t n_text n_readPage n_page n_trial n_book n_kept n_isKept n_seenStation n_seenOther n_seenWide n_seenWas n_sines n_at n_column n_gram n_right n_work (0 : Int32) v_textSize v_place v_stations v_readStations v_doings v_seen v_seed v_wide v_up v_low r_page r_sines r_at) H := hP
  replace hD : va_D A (wd_fbc8b5 k n_t n_text n_readPage n_page n_trial n_book n_kept n_isKept n_seenStation n_seenOther n_seenWide n_seenWas n_sines n_at n_column n_gram n_right n_work (0 : Int32) v_textSize v_place v_stations v_readStations v_doings v_seen v_seed v_wide v_up v_low r_page r_sines r_at) := hD
  refine lv_aload_n hx hb dX6_miss_5 rfl (lv_at hl 0 rfl) ?_
  refine lv_iload_n hx hb dX6_miss_6 rfl (lv_at hl 1 rfl) ?_
  obtain ⟨r1, e2, hm⟩ := bnd1_some hm
  refine g_calli (w2 := (wd_fbc8b5 k n_t n_text n_readPage n_page n_trial n_book n_kept n_isKept n_seenStation n_seenOther n_seenWide n_seenWas n_sines n_at n_column n_gram n_right n_work (0 : Int32) v_textSize v_place v_stations v_readStations v_doings v_seen v_seed v_wide v_up v_low r_page r_sines r_at)) (va_runV (As := [.int x1]) (rest := []) ⟨hx, hb, hml, hown, hts⟩ (m_X6_noLeg l dC dI k H.size n_t n_text n_readPage n_page n_trial n_book n_kept n_isKept n_seenStation n_seenOther n_seenWide n_seenWas n_sines n_at n_column n_gram n_right n_work (0 : Int32) v_textSize v_place v_stations v_readStations v_doings v_seen v_seed v_wide v_up v_low r_page x1 e2) (cwV 1 hts gX6_miss_X6_noLeg rfl rfl rfl (by decide +kernel) ⟨Nat.le_of_ble_eq_true rfl, Nat.le_of_ble_eq_true rfl⟩) (g_preV hG hP hD hS hA [0, 1] rfl (by decide) (ci := 6) (q0 := 0) rfl rfl) rfl rfl hl.1 rfl (lv_room (Nat.le_of_ble_eq_true rfl)) dX6_miss_7 ⟨Nat.le_of_ble_eq_true rfl, Nat.le_of_ble_eq_true rfl⟩) hP hD hS hA [0, 1] [2, 3] [2, 3, 0, 1] rfl rfl (by decide) (by decide) rfl (by decide) (fun H locs hP hD hS => ?_)
  refine lv_if_eq (tgt := 15) hx hb dX6_miss_10 (by decide) (fun c3 => ?_) (fun c3 => ?_)
  · replace hm := ifp c3 hm
    refine lv_iload_n hx hb dX6_miss_15 rfl (lv_at hl 2 rfl) ?_
    refine g_i2l hx hb dX6_miss_16 ?_
    refine lv_lconst (v := (0 : Int64)) hx hb dX6_miss_17 (by decide) ?_
    refine lv_ldc2 (v := (2 : Int64)) hx hb hown k1 dX6_miss_18 ?_
    obtain ⟨r4, e5, hm⟩ := bnd1_some hm
    refine g_calli (w2 := (wd_fbc8b5 k n_t n_text n_readPage n_page n_trial n_book n_kept n_isKept n_seenStation n_seenOther n_seenWide n_seenWas n_sines n_at n_column n_gram n_right n_work (0 : Int32) v_textSize v_place v_stations v_readStations v_doings v_seen v_seed v_wide v_up v_low r_page r_sines r_at)) (va_runS (As := [.long (Int32.toInt64 x2), .long (0 : Int64), .long (2 : Int64)]) (rest := []) ⟨hx, hb, hml, hown, hts⟩ (m_X6_in l dC dI k H.size  (Int32.toInt64 x2) (0 : Int64) (2 : Int64) e5) (va_cwS 3 hts gX6_miss_X6_in rfl rfl rfl (by decide +kernel) ⟨Nat.le_of_ble_eq_true rfl, Nat.le_of_ble_eq_true rfl⟩) (g_preS hG hP hD hS hA [] rfl (by decide)) rfl rfl hl.1 rfl (lv_room (Nat.le_of_ble_eq_true rfl)) dX6_miss_21 ⟨Nat.le_of_ble_eq_true rfl, Nat.le_of_ble_eq_true rfl⟩) hP hD hS hA [] [0, 1, 2, 3] [0, 1, 2, 3] rfl rfl (by decide) (by decide) rfl (by decide) (fun H locs hP hD hS => ?_)
    refine lv_if_ne (tgt := 30) hx hb dX6_miss_24 (by decide) (fun c6 => ?_) (fun c6 => ?_)
    · replace hm := ifn c6 hm
      refine lv_aload_n hx hb dX6_miss_30 rfl (lv_at hl 0 rfl) ?_
      refine lv_aload_n hx hb dX6_miss_31 rfl (lv_at hl 0 rfl) ?_
      refine va_get (D := (dC, dI)) (ci := 6) (v := .ref n_page) (C := RX6) (T := TX6) (N := 28) hx hb hts hinX6 hown hG.1 hP 0 rfl rfl 7 (by decide) k2 (fun _ h9 => h9) rfl dX6_miss_32 ?_
      refine lv_iload_n hx hb dX6_miss_35 rfl (lv_at hl 1 rfl) ?_
      refine lv_aload_n hx hb dX6_miss_36 rfl (lv_at hl 0 rfl) ?_
      refine lv_aload_n hx hb dX6_miss_37 rfl (lv_at hl 0 rfl) ?_
      refine va_get (D := (dC, dI)) (ci := 6) (v := .ref n_page) (C := RX6) (T := TX6) (N := 28) hx hb hts hinX6 hown hG.1 hP 0 rfl rfl 7 (by decide) k2 (fun _ h9 => h9) rfl dX6_miss_38 ?_
      refine lv_aload_n hx hb dX6_miss_41 rfl (lv_at hl 0 rfl) ?_
      refine va_get (D := (dC, dI)) (ci := 6) (v := .ref n_page) (C := RX6) (T := TX6) (N := 28) hx hb hts hinX6 hown hG.1 hP 0 rfl rfl 7 (by decide) k2 (fun _ h9 => h9) rfl dX6_miss_42 ?_
      obtain ⟨r7, e8, hm⟩ := bnd1_some hm
      refine g_calli (w2 := (wd_fbc8b5 k n_t n_text n_readPage n_page n_trial n_book n_kept n_isKept n_seenStation n_seenOther n_seenWide n_seenWas n_sines n_at n_column n_gram n_right n_work (0 : Int32) v_textSize v_place v_stations v_readStations v_doings v_seen v_seed v_wide v_up v_low r_page r_sines r_at)) (va_runS (As := [.ref n_page]) (rest := [.ref n_page, .ref n_t, .int x1, .ref n_page, .ref n_t]) ⟨hx, hb, hml, hown, hts⟩ (m_X6_all l dC dI k H.size n_page r_page  e8) (va_cwS 1 hts gX6_miss_X6_all rfl rfl rfl (by decide +kernel) ⟨Nat.le_of_ble_eq_true rfl, Nat.le_of_ble_eq_true rfl⟩) (g_preS hG hP hD hS hA [1] rfl (by decide)) rfl rfl hl.1 rfl (lv_room (Nat.le_of_ble_eq_true rfl)) dX6_miss_45 ⟨Nat.le_of_ble_eq_true rfl, Nat.le_of_ble_eq_true rfl⟩) hP hD hS hA [1] [0, 2, 3] [0, 3, 1, 2] rfl rfl (by decide) (by decide) rfl (by decide) (fun H locs hP hD hS => ?_)
      obtain ⟨r9, e10, hm⟩ := bnd1_some hm
      refine g_calli (w2 := (wd_fbc8b5 k n_t n_text n_readPage n_page n_trial n_book n_kept n_isKept n_seenStation n_seenOther n_seenWide n_seenWas n_sines n_at n_column n_gram n_right n_work (0 : Int32) v_textSize v_place v_stations v_readStations v_doings v_seen v_seed v_wide v_up v_low r_page r_sines r_at)) (va_runV (As := [.ref n_page, .int r7]) (rest := [.int x1, .ref n_page, .ref n_t]) ⟨hx, hb, hml, hown, hts⟩ (m_X6_tiedBy l dC dI k F H.size n_t n_page n_text n_readPage n_page n_trial n_book n_kept n_isKept n_seenStation n_seenOther n_seenWide n_seenWas n_sines n_at n_column n_gram n_right n_work (0 : Int32) v_textSize v_place v_stations v_readStations v_doings v_seen v_seed v_wide v_up v_low r_page r7 e10) (cwV 2 hts gX6_miss_X6_tiedBy rfl rfl rfl (by decide +kernel) ⟨Nat.le_of_ble_eq_true rfl, Nat.le_of_ble_eq_true rfl⟩) (g_preV hG hP hD hS hA [0, 1] rfl (by decide) (ci := 6) (q0 := 0) rfl rfl) rfl rfl hl.1 rfl (lv_room (Nat.le_of_ble_eq_true rfl)) dX6_miss_48 ⟨Nat.le_of_ble_eq_true rfl, Nat.le_of_ble_eq_true rfl⟩) hP hD hS hA [0, 1] [2, 3] [2, 3, 0, 1] rfl rfl (by decide) (by decide) rfl (by decide) (fun H locs hP hD hS => ?_)
      obtain ⟨r11, e12, hm⟩ := bnd1_some hm
      refine g_calli (w2 := (wd_fbc8b5 k n_t n_text n_readPage n_page n_trial n_book n_kept n_isKept n_seenStation n_seenOther n_seenWide n_seenWas n_sines n_at n_column n_gram n_right n_work (0 : Int32) v_textSize v_place v_stations v_readStations v_doings v_seen v_seed v_wide v_up v_low r_page r_sines r_at)) (va_runV (As := [.ref n_page, .int x1, .int r9]) (rest := []) ⟨hx, hb, hml, hown, hts⟩ (m_X6_isTiedLeg l dC dI k H.size n_t n_page n_text n_readPage n_page n_trial n_book n_kept n_isKept n_seenStation n_seenOther n_seenWide n_seenWas n_sines n_at n_column n_gram n_right n_work (0 : Int32) v_textSize v_place v_stations v_readStations v_doings v_seen v_seed v_wide v_up v_low r_page x1 r9 e12) (cwV 3 hts gX6_miss_X6_isTiedLeg rfl rfl rfl (by decide +kernel) ⟨Nat.le_of_ble_eq_true rfl, Nat.le_of_ble_eq_true rfl⟩) (g_preV hG hP hD hS hA [0, 1] rfl (by decide) (ci := 6) (q0 := 0) rfl rfl) rfl rfl hl.1 rfl (lv_room (Nat.le_of_ble_eq_true rfl)) dX6_miss_51 ⟨Nat.le_of_ble_eq_true rfl, Nat.le_of_ble_eq_true rfl⟩) hP hD hS hA [0, 1] [2, 3] [2, 3, 0, 1] rfl rfl (by decide) (by decide) rfl (by decide) (fun H locs hP hD hS => ?_)
      refine lv_if_ne (tgt := 60) hx hb dX6_miss_54 (by decide) (fun c13 => ?_) (fun c13 => ?_)
      · replace hm := ifn c13 hm
        refine lv_aload_n hx hb dX6_miss_60 rfl (lv_at hl 0 rfl) ?_
        refine lv_aload_n hx hb dX6_miss_61 rfl (lv_at hl 0 rfl) ?_
        refine va_get (D := (dC, dI)) (ci := 6) (v := .ref n_page) (C := RX6) (T := TX6) (N := 28) hx hb hts hinX6 hown hG.1 hP 0 rfl rfl 7 (by decide) k2 (fun _ h9 => h9) rfl dX6_miss_62 ?_
        obtain ⟨w14, e15, hm⟩ := bnd1_some hm
        refine g_callv (w2 := (wd_fbc8b5 k n_t n_text n_readPage n_page n_trial n_book n_kept n_isKept n_seenStation n_seenOther n_seenWide n_seenWas n_sines n_at n_column n_gram n_right n_work (0 : Int32) v_textSize v_place v_stations v_readStations v_doings v_seen v_seed v_wide v_up v_low r_page r_sines w14)) (va_runV (As := [.ref n_page]) (rest := []) ⟨hx, hb, hml, hown, hts⟩ (m_X6_layOut l dC dI k F H.size n_t n_page n_text n_readPage n_page n_trial n_book n_kept n_isKept n_seenStation n_seenOther n_seenWide n_seenWas n_sines n_at n_column n_gram n_right n_work (0 : Int32) v_textSize v_place v_stations v_readStations v_doings v_seen v_seed v_wide v_up v_low r_sines r_at r_page  e15) (cwV 1 hts gX6_miss_X6_layOut rfl rfl rfl (by decide +kernel) ⟨Nat.le_of_ble_eq_true rfl, Nat.le_of_ble_eq_true rfl⟩) (g_preV hG hP hD hS hA [0, 2, 3, 1] rfl (by decide) (ci := 6) (q0 := 0) rfl rfl) rfl rfl hl.1 rfl (lv_room (Nat.le_of_ble_eq_true rfl)) dX6_miss_65 ⟨Nat.le_of_ble_eq_true rfl, Nat.le_of_ble_eq_true rfl⟩) hP hD hS hA [0, 2, 3, 1] [] [0, 3, 1, 2] rfl rfl (by decide) (by decide) rfl (by decide) (fun H locs hP hD hS => ?_)
        refine lv_aload_n hx hb dX6_miss_68 rfl (lv_at hl 0 rfl) ?_
        refine lv_aload_n hx hb dX6_miss_69 rfl (lv_at hl 0 rfl) ?_
        refine va_get (D := (dC, dI)) (ci := 6) (v := .ref n_page) (C := RX6) (T := TX6) (N := 28) hx hb hts hinX6 hown hG.1 hP 0 rfl rfl 7 (by decide) k2 (fun _ h9 => h9) rfl dX6_miss_70 ?_
        refine lv_iload_n hx hb dX6_miss_73 rfl (lv_at hl 1 rfl) ?_
        refine lv_iload_n hx hb dX6_miss_74 rfl (lv_at hl 2 rfl) ?_
        obtain ⟨r16, e17, hm⟩ := bnd1_some hm
        refine g_calli (w2 := (wd_fbc8b5 k n_t n_text n_readPage n_page n_trial n_book n_kept n_isKept n_seenStation n_seenOther n_seenWide n_seenWas n_sines n_at n_column n_gram n_right n_work (0 : Int32) v_textSize v_place v_stations v_readStations v_doings v_seen v_seed v_wide v_up v_low r_page r_sines w14)) (va_runV (As := [.ref n_page, .int x1, .int x2]) (rest := []) ⟨hx, hb, hml, hown, hts⟩ (m_X6_missOf l dC dI k H.size n_t n_page n_text n_readPage n_page n_trial n_book n_kept n_isKept n_seenStation n_seenOther n_seenWide n_seenWas n_sines n_at n_column n_gram n_right n_work (0 : Int32) v_textSize v_place v_stations v_readStations v_doings v_seen v_seed v_wide v_up v_low r_sines w14 r_page x1 x2 e17) (cwV 3 hts gX6_miss_X6_missOf rfl rfl rfl (by decide +kernel) ⟨Nat.le_of_ble_eq_true rfl, Nat.le_of_ble_eq_true rfl⟩) (g_preV hG hP hD hS hA [0, 2, 3, 1] rfl (by decide) (ci := 6) (q0 := 0) rfl rfl) rfl rfl hl.1 rfl (lv_room (Nat.le_of_ble_eq_true rfl)) dX6_miss_75 ⟨Nat.le_of_ble_eq_true rfl, Nat.le_of_ble_eq_true rfl⟩) hP hD hS hA [0, 2, 3, 1] [] [0, 3, 1, 2] rfl rfl (by decide) (by decide) rfl (by decide) (fun H locs hP hD hS => ?_)
        refine lv_sipush (v := (1000 : Int32)) hx hb dX6_miss_78 (by decide) ?_
        refine lv_iadd hx hb dX6_miss_81 ?_
        exact RET _ _ _ _ _ _ _ dX6_miss_82 hm hP hD hS
      · replace hm := ifp c13 hm
        refine lv_bipush (v := (-3 : Int32)) hx hb dX6_miss_57 (by decide) ?_
        exact RET _ _ _ _ _ _ _ dX6_miss_59 hm hP hD hS
    · replace hm := ifp c6 hm
      refine lv_bipush (v := (-2 : Int32)) hx hb dX6_miss_27 (by decide) ?_
      exact RET _ _ _ _ _ _ _ dX6_miss_29 hm hP hD hS
  · replace hm := ifn c3 hm
    refine lv_iconst (v := (-1 : Int32)) hx hb dX6_miss_13 (by decide) ?_
    exact RET _ _ _ _ _ _ _ dX6_miss_14 hm hP hD hS
set_option maxRecDepth 100000 in
theorem m_X6_miss (l : Launch) (dC : Nat → ClassId) (dI : Nat → Nat → Nat) (k : Nat → ClassId) (F : Nat) (sz : Nat) (n_t n_text n_readPage n_page n_trial n_book n_kept n_isKept n_seenStation n_seenOther n_seenWide n_seenWas n_sines n_at n_column n_gram n_right n_work : Nat) (v_thrown : Int32) (v_textSize : Int32) (v_place : Int32) (v_stations : Int32) (v_readStations : Int32) (v_doings : Int32) (v_seen : Int32) (v_seed : Int64) (v_wide : Int32) (v_up : Int64) (v_low : Int64) (r_page : Nat → Int32) (r_sines : Nat → Int32) (r_at : Nat → Int32) (x1 : Int32) (x2 : Int32) {o_r : Int32} {o_v_thrown : (Int32)} {o_r_at : (Nat → Int32)} (hm : f_X6_miss F x1 x2 v_thrown r_page r_sines r_at = some (o_r, o_v_thrown, o_r_at)) : Met l yX6_miss wsX6_miss rm_X6_miss (gPre dC dI k [.ref n_t, .int x1, .int x2] sz (wd_fbc8b5 k n_t n_text n_readPage n_page n_trial n_book n_kept n_isKept n_seenStation n_seenOther n_seenWide n_seenWas n_sines n_at n_column n_gram n_right n_work v_thrown v_textSize v_place v_stations v_readStations v_doings v_seen v_seed v_wide v_up v_low r_page r_sines r_at)) (gQI dC dI (va_A (wd_fbc8b5 k n_t n_text n_readPage n_page n_trial n_book n_kept n_isKept n_seenStation n_seenOther n_seenWide n_seenWas n_sines n_at n_column n_gram n_right n_work v_thrown v_textSize v_place v_stations v_readStations v_doings v_seen v_seed v_wide v_up v_low r_page r_sines r_at) sz) o_r (wd_fbc8b5 k n_t n_text n_readPage n_page n_trial n_book n_kept n_isKept n_seenStation n_seenOther n_seenWide n_seenWas n_sines n_at n_column n_gram n_right n_work o_v_thrown v_textSize v_place v_stations v_readStations v_doings v_seen v_seed v_wide v_up v_low r_page r_sines o_r_at)) 0 0 (va_A (wd_fbc8b5 k n_t n_text n_readPage n_page n_trial n_book n_kept n_isKept n_seenStation n_seenOther n_seenWide n_seenWas n_sines n_at n_column n_gram n_right n_work v_thrown v_textSize v_place v_stations v_readStations v_doings v_seen v_seed v_wide v_up v_low r_page r_sines r_at) sz) := by
  refine g_entry (cc := cX6_miss) (maxL := 3) (ret := (some .int)) (lv := [(0, .ref n_t), (1, .int x1), (2, .int x2)]) (by decide +kernel) rfl (Nat.le_of_ble_eq_true rfl) rfl (fun p e s m below meth c ls hx hb hr hml hts hown hlk hnm hsz hG hA hP hD hS hl => ?_)
  exact k_X6_miss hx hb hml hts hown hG hA F n_t n_text n_readPage n_page n_trial n_book n_kept n_isKept n_seenStation n_seenOther n_seenWide n_seenWas n_sines n_at n_column n_gram n_right n_work v_thrown v_textSize v_place v_stations v_readStations v_doings v_seen v_seed v_wide v_up v_low r_page r_sines r_at x1 x2 o_r o_v_thrown o_r_at (fun pc H locs ls v q_v_thrown q_r_at hd ho hP hD hS => by cases ho; exact g_ireti hx hb hr hlk hP hD hS hd) s.heap [] ls hl hP hD hS hm
end
