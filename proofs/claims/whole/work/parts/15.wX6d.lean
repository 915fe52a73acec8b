section
set_option maxHeartbeats 4000000 in
set_option maxRecDepth 100000 in
theorem k_X6_squares {p : Program} {l : Launch} {e : Env} {s : State} {m : MethodId} {args : Array Value} {below : List Frame} {meth : Method} {c : Code} {A : Nat → Prop} {Q : State → Prop} {dC : Nat → ClassId} {dI : Nat → Nat → Nat} {k : Nat → ClassId} (hx : p.tables.exec = Jvm.exec) (hb : c.code = cX6_squares) (hml : c.maxLocals = 2) (hts : ∀ w ∈ wsX6_squares, w.before args s = true) (hown : s.vm.findClass RX6 = some m.cls) (hG : gK dC dI k A s) (hA : ∀ q : Nat, s.heap.size ≤ q → A q) (F : Nat) (n_t n_text n_readPage n_page n_trial n_book n_kept n_isKept n_seenStation n_seenOther n_seenWide n_seenWas n_sines n_at n_column n_gram n_right n_work : Nat) (v_thrown : Int32) (v_textSize : Int32) (v_place : Int32) (v_stations : Int32) (v_readStations : Int32) (v_doings : Int32) (v_seen : Int32) (v_seed : Int64) (v_wide : Int32) (v_up : Int64) (v_low : Int64) (r_page : Nat → Int32) (r_sines : Nat → Int32) (r_column : Nat → Int32) (r_gram : Nat → Int64) (r_right : Nat → Int64) (r_work : Nat → Int64) (x1 : Int32) (o_r : Int64) (o_v_thrown : (Int32)) (o_v_wide : (Int32)) (o_v_up : (Int64)) (o_v_low : (Int64)) (o_r_column : (Nat → Int32)) (o_r_gram : (Nat → Int64)) (o_r_right : (Nat → Int64)) (o_r_work : (Nat → Int64)) (RET : ∀ (pc : Nat) (H : Heap) (locs : List Loc) (ls : Array Slot) (v : Int64) (q_v_thrown : Int32) (q_v_wide : Int32) (q_v_up : Int64) (q_v_low : Int64) (q_r_column : Nat → Int32) (q_r_gram : Nat → Int64) (q_r_right : Nat → Int64) (q_r_work : Nat → Int64), decode cX6_squares pc = .ok (.lreturn, 1) → some (v, q_v_thrown, q_v_wide, q_v_up, q_v_low, q_r_column, q_r_gram, q_r_right, q_r_work) = some (o_r, o_v_thrown, o_v_wide, o_v_up, o_v_low, o_r_column, o_r_gram, o_r_right, o_r_work) → va_P (dC, dI) vwCl (wd_88cc5a k n_t n_text n_readPage n_page n_trial n_book n_kept n_isKept n_seenStation n_seenOther n_seenWide n_seenWas n_sines n_at n_column n_gram n_right n_work q_v_thrown v_textSize v_place v_stations v_readStations v_doings v_seen v_seed q_v_wide q_v_up q_v_low r_page r_sines q_r_column q_r_gram q_r_right q_r_work) H → va_D A (wd_88cc5a k n_t n_text n_readPage n_page n_trial n_book n_kept n_isKept n_seenStation n_seenOther n_seenWide n_seenWas n_sines n_at n_column n_gram n_right n_work q_v_thrown v_textSize v_place v_stations v_readStations v_doings v_seen v_seed q_v_wide q_v_up q_v_low r_page r_sines q_r_column q_r_gram q_r_right q_r_work) → va_S A s.heap H locs → W p l e rm_X6_squares s m args below meth c H locs 0 0 Q (F0 m pc ls [.long v])) (H : Heap) (locs : List Loc) (ls : Array Slot) (hl : lv_has ls 2 [(0, .ref n_t), (1, .int x1)]) (hP : va_P (dC, dI) vwCl (wd_88cc5a k n_t n_text n_readPage n_page n_trial n_book n_kept n_isKept n_seenStation n_seenOther n_seenWide n_seenWas n_sines n_at n_column n_gram n_right n_work v_thrown v_textSize v_place v_stations v_readStations v_doings v_seen v_seed v_wide v_up v_low r_page r_sines r_column r_gram r_right r_work) H) (hD : va_D A (wd_88cc5a k n_t n_text n_readPage n_page n_trial n_book n_kept n_isKept n_seenStation n_seenOther n_seenWide n_seenWas n_sines n_at n_column n_gram n_right n_work v_thrown v_textSize v_place v_stations v_readStations v_doings v_seen v_seed v_wide v_up v_low r_page r_sines r_column r_gram r_right r_work)) (hS : va_S A s.heap H locs) (hm : f_X6_squares F x1 v_thrown v_wide v_up v_low r_page r_sines r_column r_gram r_right r_work = some (o_r, o_v_thrown, o_v_wide, o_v_up, o_v_low, o_r_column, o_r_gram, o_r_right, o_r_work)) : W p l e rm_X6_squares s m args below meth c H locs 0 0 Q (F0 m 0 ls []) := by
  have hinX6 : ∀ w ∈ u_ws RX6 TX6 28, w ∈ wsX6_squares := by decide +kernel
  have k0 := hts (.fieldLink RX6 67 "CaveLegsModel" "thrown" "I") (by decide +kernel)
  have k1 := hts (.fieldLink RX6 20 "CaveLegsModel" "page" "[I") (by decide +kernel)
  unfold f_X6_squares at hm
  refine lv_aload_n hx hb dX6_squares_0 rfl (lv_at hl 0 rfl) ?_
  refine lv_iconst (v := (0 : Int32)) hx hb dX6_squares_1 (by decide) ?_
  refine va_put (D := (dC, dI)) (ci := 6) (v := .int (0 : Int32)) (ty := .int) (C := RX6) (T := TX6) (N := 28) hx hb hts hinX6 tyX6 tyX6_ok nmX6 hown hG.1 hP hD hS 0 rfl rfl 0 (by decide) k0 (fun _ h9 => h9) rfl (by decide +kernel) rfl rfl (Nat.le_of_ble_eq_true rfl) dX6_squares_2 (fun H locs hP hD hS => ?_)
  replace hP : va_P (dC, dI) vwCl (wd_88cc5a k n_t n_text n_readPage n_page n_trial n_book n_kept n_isKept n_seenStation n_seenOther n_seenWide n_seenWas n_sines n_at n_column n_gram n_right n_work (0 : Int32) v_textSize v_place v_stations v_readStations v_doings v_seen v_seed v_wide v_up v_low r_page r_sines r_column r_gram r_right r_work) H := hP
  replace hD : va_D A (wd_88cc5a k n_t n_text n_readPage n_page n_trial n_book n_kept n_isKept n_seenStation n_seenOther n_seenWide n_seenWas n_sines n_at n_column n_gram n_right n_work (0 : Int32) v_textSize v_place v_stations v_readStations v_doings v_seen v_seed v_wide v_up v_low r_page r_sines r_column r_gram r_right r_work) := hD
  refine lv_aload_n hx hb dX6_squares_5 rfl (lv_at hl 0 rfl) ?_
  refine lv_aload_n hx hb dX6_squares_6 rfl (lv_at hl 0 rfl) ?_
  refine va_get (D := (dC, dI)) (ci := 6) (v := .ref n_page) (C := RX6) (T := TX6) (N := 28) hx hb hts hinX6 hown hG.1 hP 0 rfl rfl 7 (by decide) k1 (fun _ h9 => h9) rfl dX6_squares_7 ?_
  refine lv_aload_n hx hb dX6_squares_10 rfl (lv_at hl 0 rfl) ?_
  refine va_get (D := (dC, dI)) (ci := 6) (v := .ref n_page) (C := RX6) (T := TX6) (N := 28) hx hb hts hinX6 hown hG.1 hP 0 rfl rfl 7 (by decide) k1 (fun _ h9 => h9) rfl dX6_squares_11 ?_
  obtain ⟨r1, e2, hm⟩ := bnd1_some hm
  refine g_calli (w2 := (wd_88cc5a k n_t n_text n_readPage n_page n_trial n_book n_kept n_isKept n_seenStation n_seenOther n_seenWide n_seenWas n_sines n_at n_column n_gram n_right n_work (0 : Int32) v_textSize v_place v_stations v_readStations v_doings v_seen v_seed v_wide v_up v_low r_page r_sines r_column r_gram r_right r_work)) (va_runS (As := [.ref n_page]) (rest := [.ref n_page, .ref n_t]) ⟨hx, hb, hml, hown, hts⟩ (m_X6_all l dC dI k H.size n_page r_page  e2) (va_cwS 1 hts gX6_squares_X6_all rfl rfl rfl (by decide +kernel) ⟨Nat.le_of_ble_eq_true rfl, Nat.le_of_ble_eq_true rfl⟩) (g_preS hG hP hD hS hA [1] rfl (by decide)) rfl rfl hl.1 rfl (lv_room (Nat.le_of_ble_eq_true rfl)) dX6_squares_14 ⟨Nat.le_of_ble_eq_true rfl, Nat.le_of_ble_eq_true rfl⟩) hP hD hS hA [1] [0, 2, 3, 4, 5, 6] [0, 6, 1, 2, 3, 4, 5] rfl rfl (by decide) (by decide) rfl (by decide) (fun H locs hP hD hS => ?_)
  refine lv_aload_n hx hb dX6_squares_17 rfl (lv_at hl 0 rfl) ?_
  refine lv_aload_n hx hb dX6_squares_18 rfl (lv_at hl 0 rfl) ?_
  refine va_get (D := (dC, dI)) (ci := 6) (v := .ref n_page) (C := RX6) (T := TX6) (N := 28) hx hb hts hinX6 hown hG.1 hP 0 rfl rfl 7 (by decide) k1 (fun _ h9 => h9) rfl dX6_squares_19 ?_
  refine lv_aload_n hx hb dX6_squares_22 rfl (lv_at hl 0 rfl) ?_
  refine va_get (D := (dC, dI)) (ci := 6) (v := .ref n_page) (C := RX6) (T := TX6) (N := 28) hx hb hts hinX6 hown hG.1 hP 0 rfl rfl 7 (by decide) k1 (fun _ h9 => h9) rfl dX6_squares_23 ?_
  obtain ⟨r3, e4, hm⟩ := bnd1_some hm
  refine g_calli (w2 := (wd_88cc5a k n_t n_text n_readPage n_page n_trial n_book n_kept n_isKept n_seenStation n_seenOther n_seenWide n_seenWas n_sines n_at n_column n_gram n_right n_work (0 : Int32) v_textSize v_place v_stations v_readStations v_doings v_seen v_seed v_wide v_up v_low r_page r_sines r_column r_gram r_right r_work)) (va_runS (As := [.ref n_page]) (rest := [.ref n_page, .ref n_t, .int r1, .ref n_page, .ref n_t]) ⟨hx, hb, hml, hown, hts⟩ (m_X6_all l dC dI k H.size n_page r_page  e4) (va_cwS 1 hts gX6_squares_X6_all rfl rfl rfl (by decide +kernel) ⟨Nat.le_of_ble_eq_true rfl, Nat.le_of_ble_eq_true rfl⟩) (g_preS hG hP hD hS hA [1] rfl (by decide)) rfl rfl hl.1 rfl (lv_room (Nat.le_of_ble_eq_true rfl)) dX6_squares_26 ⟨Nat.le_of_ble_eq_true rfl, Nat.le_of_ble_eq_true rfl⟩) hP hD hS hA [1] [0, 2, 3, 4, 5, 6] [0, 6, 1, 2, 3, 4, 5] rfl rfl (by decide) (by decide) rfl (by decide) (fun H locs hP hD hS => ?_)
  obtain ⟨r5, e6, hm⟩ := bnd1_some hm
  refine g_calli (w2 := (wd_88cc5a k n_t n_text n_readPage n_page n_trial n_book n_kept n_isKept n_seenStation n_seenOther n_seenWide n_seenWas n_sines n_at n_column n_gram n_right n_work (0 : Int32) v_textSize v_place v_stations v_readStations v_doings v_seen v_seed v_wide v_up v_low r_page r_sines r_column r_gram r_right r_work)) (va_runV (As := [.ref n_page, .int r3]) (rest := [.int r1, .ref n_page, .ref n_t]) ⟨hx, hb, hml, hown, hts⟩ (m_X6_tiedBy l dC dI k F H.size n_t n_page n_text n_readPage n_page n_trial n_book n_kept n_isKept n_seenStation n_seenOther n_seenWide n_seenWas n_sines n_at n_column n_gram n_right n_work (0 : Int32) v_textSize v_place v_stations v_readStations v_doings v_seen v_seed v_wide v_up v_low r_page r3 e6) (cwV 2 hts gX6_squares_X6_tiedBy rfl rfl rfl (by decide +kernel) ⟨Nat.le_of_ble_eq_true rfl, Nat.le_of_ble_eq_true rfl⟩) (g_preV hG hP hD hS hA [0, 1] rfl (by decide) (ci := 6) (q0 := 0) rfl rfl) rfl rfl hl.1 rfl (lv_room (Nat.le_of_ble_eq_true rfl)) dX6_squares_29 ⟨Nat.le_of_ble_eq_true rfl, Nat.le_of_ble_eq_true rfl⟩) hP hD hS hA [0, 1] [2, 3, 4, 5, 6] [5, 6, 0, 1, 2, 3, 4] rfl rfl (by decide) (by decide) rfl (by decide) (fun H locs hP hD hS => ?_)
  obtain ⟨w7, w8, w9, w10, w11, w12, w13, e14, hm⟩ := bnd7_some hm
  refine g_callv (w2 := (wd_88cc5a k n_t n_text n_readPage n_page n_trial n_book n_kept n_isKept n_seenStation n_seenOther n_seenWide n_seenWas n_sines n_at n_column n_gram n_right n_work (0 : Int32) v_textSize v_place v_stations v_readStations v_doings v_seen v_seed w7 w8 w9 r_page r_sines w10 w11 w12 w13)) (va_runV (As := [.ref n_page, .int r1, .int r5]) (rest := []) ⟨hx, hb, hml, hown, hts⟩ (m_X6_laySquares l dC dI k F H.size n_t n_page n_text n_readPage n_page n_trial n_book n_kept n_isKept n_seenStation n_seenOther n_seenWide n_seenWas n_sines n_at n_column n_gram n_right n_work (0 : Int32) v_textSize v_place v_stations v_readStations v_doings v_seen v_seed v_wide v_up v_low r_sines r_column r_gram r_right r_work r_page r1 r5 e14) (cwV 3 hts gX6_squares_X6_laySquares rfl rfl rfl (by decide +kernel) ⟨Nat.le_of_ble_eq_true rfl, Nat.le_of_ble_eq_true rfl⟩) (g_preV hG hP hD hS hA [0, 2, 3, 4, 5, 6, 1] rfl (by decide) (ci := 6) (q0 := 0) rfl rfl) rfl rfl hl.1 rfl (lv_room (Nat.le_of_ble_eq_true rfl)) dX6_squares_32 ⟨Nat.le_of_ble_eq_true rfl, Nat.le_of_ble_eq_true rfl⟩) hP hD hS hA [0, 2, 3, 4, 5, 6, 1] [] [0, 6, 1, 2, 3, 4, 5] rfl rfl (by decide) (by decide) rfl (by decide) (fun H locs hP hD hS => ?_)
  refine lv_aload_n hx hb dX6_squares_35 rfl (lv_at hl 0 rfl) ?_
  refine lv_iload_n hx hb dX6_squares_36 rfl (lv_at hl 1 rfl) ?_
  obtain ⟨r15, e16, hm⟩ := bnd1_some hm
  refine g_calll (w2 := (wd_88cc5a k n_t n_text n_readPage n_page n_trial n_book n_kept n_isKept n_seenStation n_seenOther n_seenWide n_seenWas n_sines n_at n_column n_gram n_right n_work (0 : Int32) v_textSize v_place v_stations v_readStations v_doings v_seen v_seed w7 w8 w9 r_page r_sines w10 w11 w12 w13)) (va_runV (As := [.int x1]) (rest := []) ⟨hx, hb, hml, hown, hts⟩ (m_X6_told l dC dI k H.size n_t n_text n_readPage n_page n_trial n_book n_kept n_isKept n_seenStation n_seenOther n_seenWide n_seenWas n_sines n_at n_column n_gram n_right n_work (0 : Int32) v_textSize v_place v_stations v_readStations v_doings v_seen v_seed w7 w8 w9 x1 e16) (cwV 1 hts gX6_squares_X6_told rfl rfl rfl (by decide +kernel) ⟨Nat.le_of_ble_eq_true rfl, Nat.le_of_ble_eq_true rfl⟩) (g_preV hG hP hD hS hA [0] rfl (by decide) (ci := 6) (q0 := 0) rfl rfl) rfl rfl hl.1 rfl (lv_room (Nat.le_of_ble_eq_true rfl)) dX6_squares_37 ⟨Nat.le_of_ble_eq_true rfl, Nat.le_of_ble_eq_true rfl⟩) hP hD hS hA [0] [1, 2, 3, 4, 5, 6] [6, 0, 1, 2, 3, 4, 5] rfl rfl (by decide) (by decide) rfl (by decide) (fun H locs hP hD hS => ?_)
  exact RET _ _ _ _ _ _ _ _ _ _ _ _ _ dX6_squares_40 hm hP hD hS
set_option maxRecDepth 100000 in
theorem m_X6_squares (l : Launch) (dC : Nat → ClassId) (dI : Nat → Nat → Nat) (k : Nat → ClassId) (F : Nat) (sz : Nat) (n_t n_text n_readPage n_page n_trial n_book n_kept n_isKept n_seenStation n_seenOther n_seenWide n_seenWas n_sines n_at n_column n_gram n_right n_work : Nat) (v_thrown : Int32) (v_textSize : Int32) (v_place : Int32) (v_stations : Int32) (v_readStations : Int32) (v_doings : Int32) (v_seen : Int32) (v_seed : Int64) (v_wide : Int32) (v_up : Int64) (v_low : Int64) (r_page : Nat → Int32) (r_sines : Nat → Int32) (r_column : Nat → Int32) (r_gram : Nat → Int64) (r_right : Nat → Int64) (r_work : Nat → Int64) (x1 : Int32) {o_r : Int64} {o_v_thrown : (Int32)} {o_v_wide : (Int32)} {o_v_up : (Int64)} {o_v_low : (Int64)} {o_r_column : (Nat → Int32)} {o_r_gram : (Nat → Int64)} {o_r_right : (Nat → Int64)} {o_r_work : (Nat → Int64)} (hm : f_X6_squares F x1 v_thrown v_wide v_up v_low r_page r_sines r_column r_gram r_right r_work = some (o_r, o_v_thrown, o_v_wide, o_v_up, o_v_low, o_r_column, o_r_gram, o_r_right, o_r_work)) : Met l yX6_squares wsX6_squares rm_X6_squares (gPre dC dI k [.ref n_t, .int x1] sz (wd_88cc5a k n_t n_text n_readPage n_page n_trial n_book n_kept n_isKept n_seenStation n_seenOther n_seenWide n_seenWas n_sines n_at n_column n_gram n_right n_work v_thrown v_textSize v_place v_stations v_readStations v_doings v_seen v_seed v_wide v_up v_low r_page r_sines r_column r_gram r_right r_work)) (gQL dC dI (va_A (wd_88cc5a k n_t n_text n_readPage n_page n_trial n_book n_kept n_isKept n_seenStation n_seenOther n_seenWide n_seenWas n_sines n_at n_column n_gram n_right n_work v_thrown v_textSize v_place v_stations v_readStations v_doings v_seen v_seed v_wide v_up v_low r_page r_sines r_column r_gram r_right r_work) sz) o_r (wd_88cc5a k n_t n_text n_readPage n_page n_trial n_book n_kept n_isKept n_seenStation n_seenOther n_seenWide n_seenWas n_sines n_at n_column n_gram n_right n_work o_v_thrown v_textSize v_place v_stations v_readStations v_doings v_seen v_seed o_v_wide o_v_up o_v_low r_page r_sines o_r_column o_r_gram o_r_right o_r_work)) 0 0 (va_A (wd_88cc5a k n_t n_text n_readPage n_page n_trial n_book n_kept n_isKept n_seenStation n_seenOther n_seenWide n_seenWas n_sines n_at n_column n_gram n_right n_work v_thrown v_textSize v_place v_stations v_readStations v_doings v_seen v_seed v_wide v_up v_low r_page r_sines r_column r_gram r_right r_work) sz) := by
  refine g_entry (cc := cX6_squares) (maxL := 2) (ret := (some .long)) (lv := [(0, .ref n_t), (1, .int x1)]) (by decide +kernel) rfl (Nat.le_of_ble_eq_true rfl) rfl (fun p e s m below meth c ls hx hb hr hml hts hown hlk hnm hsz hG hA hP hD hS hl => ?_)
  exact k_X6_squares hx hb hml hts hown hG hA F n_t n_text n_readPage n_page n_trial n_book n_kept n_isKept n_seenStation n_seenOther n_seenWide n_seenWas n_sines n_at n_column n_gram n_right n_work v_thrown v_textSize v_place v_stations v_readStations v_doings v_seen v_seed v_wide v_up v_low r_page r_sines r_column r_gram r_right r_work x1 o_r o_v_thrown o_v_wide o_v_up o_v_low o_r_column o_r_gram o_r_right o_r_work (fun pc H locs ls v q_v_thrown q_v_wide q_v_up q_v_low q_r_column q_r_gram q_r_right q_r_work hd ho hP hD hS => by cases ho; exact g_lret hx hb hr hlk hP hD hS hd) s.heap [] ls hl hP hD hS hm
end
section
set_option maxHeartbeats 4000000 in
set_option maxRecDepth 100000 in
theorem k_X6_blunder {p : Program} {l : Launch} {e : Env} {s : State} {m : MethodId} {args : Array Value} {below : List Frame} {meth : Method} {c : Code} {A : Nat → Prop} {Q : State → Prop} {dC : Nat → ClassId} {dI : Nat → Nat → Nat} {k : Nat → ClassId} (hx : p.tables.exec = Jvm.exec) (hb : c.code = cX6_blunder) (hml : c.maxLocals = 9) (hts : ∀ w ∈ wsX6_blunder, w.before args s = true) (hown : s.vm.findClass RX6 = some m.cls) (hG : gK dC dI k A s) (hA : ∀ q : Nat, s.heap.size ≤ q → A q) (F : Nat) (n_t n_text n_readPage n_page n_trial n_book n_kept n_isKept n_seenStation n_seenOther n_seenWide n_seenWas n_sines n_at n_column n_gram n_right n_work : Nat) (v_thrown : Int32) (v_textSize : Int32) (v_place : Int32) (v_stations : Int32) (v_readStations : Int32) (v_doings : Int32) (v_seen : Int32) (v_seed : Int64) (v_wide : Int32) (v_up : Int64) (v_low : Int64) (r_page : Nat → Int32) (r_sines : Nat → Int32) (r_column : Nat → Int32) (r_gram : Nat → Int64) (r_right : Nat → Int64) (r_work : Nat → Int64) (o_r : Int32) (o_v_wide : (Int32)) (o_v_up : (Int64)) (o_v_low : (Int64)) (o_r_column : (Nat → Int32)) (o_r_gram : (Nat → Int64)) (o_r_right : (Nat → Int64)) (o_r_work : (Nat → Int64)) (RET : ∀ (pc : Nat) (H : Heap) (locs : List Loc) (ls : Array Slot) (v : Int32) (q_v_wide : Int32) (q_v_up : Int64) (q_v_low : Int64) (q_r_column : Nat → Int32) (q_r_gram : Nat → Int64) (q_r_right : Nat → Int64) (q_r_work : Nat → Int64), decode cX6_blunder pc = .ok (.ireturn, 1) → some (v, q_v_wide, q_v_up, q_v_low, q_r_column, q_r_gram, q_r_right, q_r_work) = some (o_r, o_v_wide, o_v_up, o_v_low, o_r_column, o_r_gram, o_r_right, o_r_work) → va_P (dC, dI) vwCl (wd_88cc5a k n_t n_text n_readPage n_page n_trial n_book n_kept n_isKept n_seenStation n_seenOther n_seenWide n_seenWas n_sines n_at n_column n_gram n_right n_work v_thrown v_textSize v_place v_stations v_readStations v_doings v_seen v_seed q_v_wide q_v_up q_v_low r_page r_sines q_r_column q_r_gram q_r_right q_r_work) H → va_D A (wd_88cc5a k n_t n_text n_readPage n_page n_trial n_book n_kept n_isKept n_seenStation n_seenOther n_seenWide n_seenWas n_sines n_at n_column n_gram n_right n_work v_thrown v_textSize v_place v_stations v_readStations v_doings v_seen v_seed q_v_wide q_v_up q_v_low r_page r_sines q_r_column q_r_gram q_r_right q_r_work) → va_S A s.heap H locs → W p l e rm_X6_blunder s m args below meth c H locs 0 0 Q (F0 m pc ls [.int v])) (H : Heap) (locs : List Loc) (ls : Array Slot) (hl : lv_has ls 9 [(0, .ref n_t)]) (hP : va_P (dC, dI) vwCl (wd_88cc5a k n_t n_text n_readPage n_page n_trial n_book n_kept n_isKept n_seenStation n_seenOther n_seenWide n_seenWas n_sines n_at n_column n_gram n_right n_work v_thrown v_textSize v_place v_stations v_readStations v_doings v_seen v_seed v_wide v_up v_low r_page r_sines r_column r_gram r_right r_work) H) (hD : va_D A (wd_88cc5a k n_t n_text n_readPage n_page n_trial n_book n_kept n_isKept n_seenStation n_seenOther n_seenWide n_seenWas n_sines n_at n_column n_gram n_right n_work v_thrown v_textSize v_place v_stations v_readStations v_doings v_seen v_seed v_wide v_up v_low r_page r_sines r_column r_gram r_right r_work)) (hS : va_S A s.heap H locs) (hm : f_X6_blunder F v_wide v_up v_low r_page r_sines r_column r_gram r_right r_work = some (o_r, o_v_wide, o_v_up, o_v_low, o_r_column, o_r_gram, o_r_right, o_r_work)) : W p l e rm_X6_blunder s m args below meth c H locs 0 0 Q (F0 m 0 ls []) := by
  have hinX6 : ∀ w ∈ u_ws RX6 TX6 28, w ∈ wsX6_blunder := by decide +kernel
  have k0 := hts (.fieldLink RX6 186 "CaveLegsModel" "up" "J") (by decide +kernel)
  have k1 := hts (.fieldLink RX6 190 "CaveLegsModel" "low" "J") (by decide +kernel)
  have k2 := hts (.fieldLink RX6 20 "CaveLegsModel" "page" "[I") (by decide +kernel)
  have L_27 : ∀ (n27 : Nat) (v_wide : Int32) (v_up : Int64) (v_low : Int64) (r_column : Nat → Int32) (r_gram : Nat → Int64) (r_right : Nat → Int64) (r_work : Nat → Int64) (x1 : Int32) (x2 : Int32) (x3 : Int64) (x5 : Int64) (x7 : Int32) (H : Heap) (locs : List Loc) (ls : Array Slot), lv_has ls 9 [(0, .ref n_t), (1, .int x1), (2, .int x2), (3, .long x3), (5, .long x5), (7, .int x7)] → va_P (dC, dI) vwCl (wd_88cc5a k n_t n_text n_readPage n_page n_trial n_book n_kept n_isKept n_seenStation n_seenOther n_seenWide n_seenWas n_sines n_at n_column n_gram n_right n_work v_thrown v_textSize v_place v_stations v_readStations v_doings v_seen v_seed v_wide v_up v_low r_page r_sines r_column r_gram r_right r_work) H → va_D A (wd_88cc5a k n_t n_text n_readPage n_page n_trial n_book n_kept n_isKept n_seenStation n_seenOther n_seenWide n_seenWas n_sines n_at n_column n_gram n_right n_work v_thrown v_textSize v_place v_stations v_readStations v_doings v_seen v_seed v_wide v_up v_low r_page r_sines r_column r_gram r_right r_work) → va_S A s.heap H locs → f_X6_blunder_L27 F r_page r_sines n27 v_wide v_up v_low r_column r_gram r_right r_work x1 x2 x3 x5 x7 = some (o_r, o_v_wide, o_v_up, o_v_low, o_r_column, o_r_gram, o_r_right, o_r_work) → W p l e rm_X6_blunder s m args below meth c H locs 0 0 Q (F0 m 27 ls []) := by
    intro n27
    induction n27 with
    | zero =>
      intro v_wide v_up v_low r_column r_gram r_right r_work x1 x2 x3 x5 x7 H locs ls hl hP hD hS hm
      exact non_some hm
    | succ n27 ih27 =>
      have J_116 : ∀ (v_wide : Int32) (v_up : Int64) (v_low : Int64) (r_column : Nat → Int32) (r_gram : Nat → Int64) (r_right : Nat → Int64) (r_work : Nat → Int64) (x1 : Int32) (x2 : Int32) (x3 : Int64) (x5 : Int64) (x7 : Int32) (H : Heap) (locs : List Loc) (ls : Array Slot), lv_has ls 9 [(0, .ref n_t), (1, .int x1), (2, .int x2), (3, .long x3), (5, .long x5), (7, .int x7)] → va_P (dC, dI) vwCl (wd_88cc5a k n_t n_text n_readPage n_page n_trial n_book n_kept n_isKept n_seenStation n_seenOther n_seenWide n_seenWas n_sines n_at n_column n_gram n_right n_work v_thrown v_textSize v_place v_stations v_readStations v_doings v_seen v_seed v_wide v_up v_low r_page r_sines r_column r_gram r_right r_work) H → va_D A (wd_88cc5a k n_t n_text n_readPage n_page n_trial n_book n_kept n_isKept n_seenStation n_seenOther n_seenWide n_seenWas n_sines n_at n_column n_gram n_right n_work v_thrown v_textSize v_place v_stations v_readStations v_doings v_seen v_seed v_wide v_up v_low r_page r_sines r_column r_gram r_right r_work) → va_S A s.heap H locs → f_X6_blunder_J116 F r_page r_sines (f_X6_blunder_L27 F r_page r_sines n27) v_wide v_up v_low r_column r_gram r_right r_work x1 x2 x3 x5 x7 = some (o_r, o_v_wide, o_v_up, o_v_low, o_r_column, o_r_gram, o_r_right, o_r_work) → W p l e rm_X6_blunder s m args below meth c H locs 0 0 Q (F0 m 116 ls []) := by
        intro v_wide v_up v_low r_column r_gram r_right r_work x1 x2 x3 x5 x7 H locs ls hl hP hD hS hm
        unfold f_X6_blunder_J116 at hm
        obtain ⟨t1, et1⟩ : ∃ y : Int32, y = x7 + (1 : Int32) := ⟨_, rfl⟩
        replace hm := (nmd_eq et1).trans hm
        refine lv_iinc (v := t1) (lv' := [(7, .int t1), (0, .ref n_t), (1, .int x1), (2, .int x2), (3, .long x3), (5, .long x5)]) hx hb dX6_blunder_116 hl (k := 5) rfl (by rw [et1]; rfl) (by decide) rfl (fun ls hl => ?_)
        refine lv_goto (tgt := 27) hx hb dX6_blunder_119 (by decide) ?_
        exact ih27 _ _ _ _ _ _ _ _ _ _ _ _ _ _ _ (lv_sub hl [1, 2, 3, 4, 5, 0] rfl) hP hD hS hm
      have J_102 : ∀ (v_wide : Int32) (v_up : Int64) (v_low : Int64) (r_column : Nat → Int32) (r_gram : Nat → Int64) (r_right : Nat → Int64) (r_work : Nat → Int64) (x1 : Int32) (x7 : Int32) (H : Heap) (locs : List Loc) (ls : Array Slot), lv_has ls 9 [(0, .ref n_t), (1, .int x1), (7, .int x7)] → va_P (dC, dI) vwCl (wd_88cc5a k n_t n_text n_readPage n_page n_trial n_book n_kept n_isKept n_seenStation n_seenOther n_seenWide n_seenWas n_sines n_at n_column n_gram n_right n_work v_thrown v_textSize v_place v_stations v_readStations v_doings v_seen v_seed v_wide v_up v_low r_page r_sines r_column r_gram r_right r_work) H → va_D A (wd_88cc5a k n_t n_text n_readPage n_page n_trial n_book n_kept n_isKept n_seenStation n_seenOther n_seenWide n_seenWas n_sines n_at n_column n_gram n_right n_work v_thrown v_textSize v_place v_stations v_readStations v_doings v_seen v_seed v_wide v_up v_low r_page r_sines r_column r_gram r_right r_work) → va_S A s.heap H locs → f_X6_blunder_J102 F r_page r_sines (f_X6_blunder_L27 F r_page r_sines n27) v_wide v_up v_low r_column r_gram r_right r_work x1 x7 = some (o_r, o_v_wide, o_v_up, o_v_low, o_r_column, o_r_gram, o_r_right, o_r_work) → W p l e rm_X6_blunder s m args below meth c H locs 0 0 Q (F0 m 102 ls []) := by
        intro v_wide v_up v_low r_column r_gram r_right r_work x1 x7 H locs ls hl hP hD hS hm
        unfold f_X6_blunder_J102 at hm
        refine lv_iload hx hb dX6_blunder_102 (lv_at hl 2 rfl) ?_
        refine lv_istore_n (lv' := [(2, .int x7), (0, .ref n_t), (1, .int x1), (7, .int x7)]) hx hb dX6_blunder_104 rfl hl (by decide) rfl (fun ls hl => ?_)
        refine lv_aload_n hx hb dX6_blunder_105 rfl (lv_at hl 1 rfl) ?_
        refine va_get (D := (dC, dI)) (ci := 6) (v := .long v_up) (C := RX6) (T := TX6) (N := 28) hx hb hts hinX6 hown hG.1 hP 0 rfl rfl 26 (by decide) k0 (fun _ h9 => h9) rfl dX6_blunder_106 ?_
        refine lv_lstore_n (lv' := [(3, .long v_up), (2, .int x7), (0, .ref n_t), (1, .int x1), (7, .int x7)]) hx hb dX6_blunder_109 rfl hl (by decide) rfl (fun ls hl => ?_)
        refine lv_aload_n hx hb dX6_blunder_110 rfl (lv_at hl 2 rfl) ?_
        refine va_get (D := (dC, dI)) (ci := 6) (v := .long v_low) (C := RX6) (T := TX6) (N := 28) hx hb hts hinX6 hown hG.1 hP 0 rfl rfl 27 (by decide) k1 (fun _ h9 => h9) rfl dX6_blunder_111 ?_
        refine lv_lstore (lv' := [(5, .long v_low), (3, .long v_up), (2, .int x7), (0, .ref n_t), (1, .int x1), (7, .int x7)]) hx hb dX6_blunder_114 hl (by decide) rfl (fun ls hl => ?_)
        exact J_116 _ _ _ _ _ _ _ _ _ _ _ _ _ _ _ (lv_sub hl [3, 4, 2, 1, 0, 5] rfl) hP hD hS hm
      intro v_wide v_up v_low r_column r_gram r_right r_work x1 x2 x3 x5 x7 H locs ls hl hP hD hS hm
      replace hm : f_X6_blunder_B27 F r_page r_sines (f_X6_blunder_L27 F r_page r_sines n27) v_wide v_up v_low r_column r_gram r_right r_work x1 x2 x3 x5 x7 = some (o_r, o_v_wide, o_v_up, o_v_low, o_r_column, o_r_gram, o_r_right, o_r_work) := hm
      unfold f_X6_blunder_B27 at hm
      refine lv_iload hx hb dX6_blunder_27 (lv_at hl 5 rfl) ?_
      refine lv_aload_n hx hb dX6_blunder_29 rfl (lv_at hl 0 rfl) ?_
      refine va_get (D := (dC, dI)) (ci := 6) (v := .ref n_page) (C := RX6) (T := TX6) (N := 28) hx hb hts hinX6 hown hG.1 hP 0 rfl rfl 7 (by decide) k2 (fun _ h9 => h9) rfl dX6_blunder_30 ?_
      refine lv_iconst (v := (0 : Int32)) hx hb dX6_blunder_33 (by decide) ?_
      obtain ⟨hi2, hm⟩ := chk_some hm
      refine va_iald hx hb hG.1 hP 1 0 rfl rfl hi2 dX6_blunder_34 ?_
      refine lv_icmp_ge (tgt := 122) hx hb dX6_blunder_35 (by decide) (fun c3 => ?_) (fun c3 => ?_)
      · replace hm := ifp c3 hm
        refine lv_iload_n hx hb dX6_blunder_122 rfl (lv_at hl 2 rfl) ?_
        exact RET _ _ _ _ _ _ _ _ _ _ _ _ dX6_blunder_123 hm hP hD hS
      · replace hm := ifn c3 hm
        refine lv_aload_n hx hb dX6_blunder_38 rfl (lv_at hl 0 rfl) ?_
        refine va_get (D := (dC, dI)) (ci := 6) (v := .ref n_page) (C := RX6) (T := TX6) (N := 28) hx hb hts hinX6 hown hG.1 hP 0 rfl rfl 7 (by decide) k2 (fun _ h9 => h9) rfl dX6_blunder_39 ?_
        obtain ⟨r4, e5, hm⟩ := bnd1_some hm
        refine g_calli (w2 := (wd_88cc5a k n_t n_text n_readPage n_page n_trial n_book n_kept n_isKept n_seenStation n_seenOther n_seenWide n_seenWas n_sines n_at n_column n_gram n_right n_work v_thrown v_textSize v_place v_stations v_readStations v_doings v_seen v_seed v_wide v_up v_low r_page r_sines r_column r_gram r_right r_work)) (va_runS (As := [.ref n_page]) (rest := []) ⟨hx, hb, hml, hown, hts⟩ (m_X6_all l dC dI k H.size n_page r_page  e5) (va_cwS 1 hts gX6_blunder_X6_all rfl rfl rfl (by decide +kernel) ⟨Nat.le_of_ble_eq_true rfl, Nat.le_of_ble_eq_true rfl⟩) (g_preS hG hP hD hS hA [1] rfl (by decide)) rfl rfl hl.1 rfl (lv_room (Nat.le_of_ble_eq_true rfl)) dX6_blunder_42 ⟨Nat.le_of_ble_eq_true rfl, Nat.le_of_ble_eq_true rfl⟩) hP hD hS hA [1] [0, 2, 3, 4, 5, 6] [0, 6, 1, 2, 3, 4, 5] rfl rfl (by decide) (by decide) rfl (by decide) (fun H locs hP hD hS => ?_)
        refine lv_iconst (v := (1 : Int32)) hx hb dX6_blunder_45 (by decide) ?_
        refine lv_iload hx hb dX6_blunder_46 (lv_at hl 5 rfl) ?_
        refine g_ishl hx hb dX6_blunder_48 ?_
        refine lv_iconst (v := (-1 : Int32)) hx hb dX6_blunder_49 (by decide) ?_
        refine lv_ixor hx hb dX6_blunder_50 ?_
        refine lv_iand hx hb dX6_blunder_51 ?_
        refine lv_topi (fun t6 et6 => ?_)
        replace hm := (nmd_eq et6).trans hm
        refine lv_istore (lv' := [(8, .int t6), (0, .ref n_t), (1, .int x1), (2, .int x2), (3, .long x3), (5, .long x5), (7, .int x7)]) hx hb dX6_blunder_52 hl (by decide) rfl (fun ls hl => ?_)
        refine lv_aload_n hx hb dX6_blunder_54 rfl (lv_at hl 1 rfl) ?_
        refine lv_aload_n hx hb dX6_blunder_55 rfl (lv_at hl 1 rfl) ?_
        refine va_get (D := (dC, dI)) (ci := 6) (v := .ref n_page) (C := RX6) (T := TX6) (N := 28) hx hb hts hinX6 hown hG.1 hP 0 rfl rfl 7 (by decide) k2 (fun _ h9 => h9) rfl dX6_blunder_56 ?_
        refine lv_iload hx hb dX6_blunder_59 (lv_at hl 0 rfl) ?_
        obtain ⟨r7, e8, hm⟩ := bnd1_some hm
        refine g_calli (w2 := (wd_88cc5a k n_t n_text n_readPage n_page n_trial n_book n_kept n_isKept n_seenStation n_seenOther n_seenWide n_seenWas n_sines n_at n_column n_gram n_right n_work v_thrown v_textSize v_place v_stations v_readStations v_doings v_seen v_seed v_wide v_up v_low r_page r_sines r_column r_gram r_right r_work)) (va_runV (As := [.ref n_page, .int t6]) (rest := []) ⟨hx, hb, hml, hown, hts⟩ (m_X6_tiedBy l dC dI k F H.size n_t n_page n_text n_readPage n_page n_trial n_book n_kept n_isKept n_seenStation n_seenOther n_seenWide n_seenWas n_sines n_at n_column n_gram n_right n_work v_thrown v_textSize v_place v_stations v_readStations v_doings v_seen v_seed v_wide v_up v_low r_page t6 e8) (cwV 2 hts gX6_blunder_X6_tiedBy rfl rfl rfl (by decide +kernel) ⟨Nat.le_of_ble_eq_true rfl, Nat.le_of_ble_eq_true rfl⟩) (g_preV hG hP hD hS hA [0, 1] rfl (by decide) (ci := 6) (q0 := 0) rfl rfl) rfl rfl hl.1 rfl (lv_room (Nat.le_of_ble_eq_true rfl)) dX6_blunder_61 ⟨Nat.le_of_ble_eq_true rfl, Nat.le_of_ble_eq_true rfl⟩) hP hD hS hA [0, 1] [2, 3, 4, 5, 6] [5, 6, 0, 1, 2, 3, 4] rfl rfl (by decide) (by decide) rfl (by decide) (fun H locs hP hD hS => ?_)
        refine lv_iload_n hx hb dX6_blunder_64 rfl (lv_at hl 2 rfl) ?_
        refine lv_icmp_ne (tgt := 116) hx hb dX6_blunder_65 (by decide) (fun c9 => ?_) (fun c9 => ?_)
        · replace hm := ifn c9 hm
          exact J_116 _ _ _ _ _ _ _ _ _ _ _ _ _ _ _ (lv_sub hl [1, 2, 3, 4, 5, 6] rfl) hP hD hS hm
        · replace hm := ifp c9 hm
          refine lv_aload_n hx hb dX6_blunder_68 rfl (lv_at hl 1 rfl) ?_
          refine lv_aload_n hx hb dX6_blunder_69 rfl (lv_at hl 1 rfl) ?_
          refine va_get (D := (dC, dI)) (ci := 6) (v := .ref n_page) (C := RX6) (T := TX6) (N := 28) hx hb hts hinX6 hown hG.1 hP 0 rfl rfl 7 (by decide) k2 (fun _ h9 => h9) rfl dX6_blunder_70 ?_
          refine lv_iload hx hb dX6_blunder_73 (lv_at hl 0 rfl) ?_
          refine lv_iload_n hx hb dX6_blunder_75 rfl (lv_at hl 2 rfl) ?_
          obtain ⟨w10, w11, w12, w13, w14, w15, w16, e17, hm⟩ := bnd7_some hm
          refine g_callv (w2 := (wd_88cc5a k n_t n_text n_readPage n_page n_trial n_book n_kept n_isKept n_seenStation n_seenOther n_seenWide n_seenWas n_sines n_at n_column n_gram n_right n_work v_thrown v_textSize v_place v_stations v_readStations v_doings v_seen v_seed w10 w11 w12 r_page r_sines w13 w14 w15 w16)) (va_runV (As := [.ref n_page, .int t6, .int x1]) (rest := []) ⟨hx, hb, hml, hown, hts⟩ (m_X6_laySquares l dC dI k F H.size n_t n_page n_text n_readPage n_page n_trial n_book n_kept n_isKept n_seenStation n_seenOther n_seenWide n_seenWas n_sines n_at n_column n_gram n_right n_work v_thrown v_textSize v_place v_stations v_readStations v_doings v_seen v_seed v_wide v_up v_low r_sines r_column r_gram r_right r_work r_page t6 x1 e17) (cwV 3 hts gX6_blunder_X6_laySquares rfl rfl rfl (by decide +kernel) ⟨Nat.le_of_ble_eq_true rfl, Nat.le_of_ble_eq_true rfl⟩) (g_preV hG hP hD hS hA [0, 2, 3, 4, 5, 6, 1] rfl (by decide) (ci := 6) (q0 := 0) rfl rfl) rfl rfl hl.1 rfl (lv_room (Nat.le_of_ble_eq_true rfl)) dX6_blunder_76 ⟨Nat.le_of_ble_eq_true rfl, Nat.le_of_ble_eq_true rfl⟩) hP hD hS hA [0, 2, 3, 4, 5, 6, 1] [] [0, 6, 1, 2, 3, 4, 5] rfl rfl (by decide) (by decide) rfl (by decide) (fun H locs hP hD hS => ?_)
          refine lv_iload_n hx hb dX6_blunder_79 rfl (lv_at hl 3 rfl) ?_
          refine lv_bipush (v := (-9 : Int32)) hx hb dX6_blunder_80 (by decide) ?_
          refine lv_icmp_eq (tgt := 102) hx hb dX6_blunder_82 (by decide) (fun c18 => ?_) (fun c18 => ?_)
          · replace hm := ifp c18 hm
            exact J_102 _ _ _ _ _ _ _ _ _ _ _ _ (lv_sub hl [1, 2, 6] rfl) hP hD hS hm
          · replace hm := ifn c18 hm
            refine lv_aload_n hx hb dX6_blunder_85 rfl (lv_at hl 1 rfl) ?_
            refine va_get (D := (dC, dI)) (ci := 6) (v := .long w11) (C := RX6) (T := TX6) (N := 28) hx hb hts hinX6 hown hG.1 hP 0 rfl rfl 26 (by decide) k0 (fun _ h9 => h9) rfl dX6_blunder_86 ?_
            refine lv_lload hx hb dX6_blunder_89 (lv_at hl 5 rfl) ?_
            refine lv_lmul hx hb dX6_blunder_91 ?_
            refine lv_lload_n hx hb dX6_blunder_92 rfl (lv_at hl 4 rfl) ?_
            refine lv_aload_n hx hb dX6_blunder_93 rfl (lv_at hl 1 rfl) ?_
            refine va_get (D := (dC, dI)) (ci := 6) (v := .long w12) (C := RX6) (T := TX6) (N := 28) hx hb hts hinX6 hown hG.1 hP 0 rfl rfl 27 (by decide) k1 (fun _ h9 => h9) rfl dX6_blunder_94 ?_
            refine lv_lmul hx hb dX6_blunder_97 ?_
            refine g_lcmp_ge (tgt := 116) hx hb dX6_blunder_98 rfl dX6_blunder_99 (by decide) (fun c19 => ?_) (fun c19 => ?_)
            · replace hm := ifp c19 hm
              exact J_116 _ _ _ _ _ _ _ _ _ _ _ _ _ _ _ (lv_sub hl [1, 2, 3, 4, 5, 6] rfl) hP hD hS hm
            · replace hm := ifn c19 hm
              exact J_102 _ _ _ _ _ _ _ _ _ _ _ _ (lv_sub hl [1, 2, 6] rfl) hP hD hS hm
  unfold f_X6_blunder at hm
  refine lv_aload_n hx hb dX6_blunder_0 rfl (lv_at hl 0 rfl) ?_
  refine lv_aload_n hx hb dX6_blunder_1 rfl (lv_at hl 0 rfl) ?_
  refine va_get (D := (dC, dI)) (ci := 6) (v := .ref n_page) (C := RX6) (T := TX6) (N := 28) hx hb hts hinX6 hown hG.1 hP 0 rfl rfl 7 (by decide) k2 (fun _ h9 => h9) rfl dX6_blunder_2 ?_
  refine lv_aload_n hx hb dX6_blunder_5 rfl (lv_at hl 0 rfl) ?_
  refine va_get (D := (dC, dI)) (ci := 6) (v := .ref n_page) (C := RX6) (T := TX6) (N := 28) hx hb hts hinX6 hown hG.1 hP 0 rfl rfl 7 (by decide) k2 (fun _ h9 => h9) rfl dX6_blunder_6 ?_
  obtain ⟨r20, e21, hm⟩ := bnd1_some hm
  refine g_calli (w2 := (wd_88cc5a k n_t n_text n_readPage n_page n_trial n_book n_kept n_isKept n_seenStation n_seenOther n_seenWide n_seenWas n_sines n_at n_column n_gram n_right n_work v_thrown v_textSize v_place v_stations v_readStations v_doings v_seen v_seed v_wide v_up v_low r_page r_sines r_column r_gram r_right r_work)) (va_runS (As := [.ref n_page]) (rest := [.ref n_page, .ref n_t]) ⟨hx, hb, hml, hown, hts⟩ (m_X6_all l dC dI k H.size n_page r_page  e21) (va_cwS 1 hts gX6_blunder_X6_all rfl rfl rfl (by decide +kernel) ⟨Nat.le_of_ble_eq_true rfl, Nat.le_of_ble_eq_true rfl⟩) (g_preS hG hP hD hS hA [1] rfl (by decide)) rfl rfl hl.1 rfl (lv_room (Nat.le_of_ble_eq_true rfl)) dX6_blunder_9 ⟨Nat.le_of_ble_eq_true rfl, Nat.le_of_ble_eq_true rfl⟩) hP hD hS hA [1] [0, 2, 3, 4, 5, 6] [0, 6, 1, 2, 3, 4, 5] rfl rfl (by decide) (by decide) rfl (by decide) (fun H locs hP hD hS => ?_)
  obtain ⟨r22, e23, hm⟩ := bnd1_some hm
  refine g_calli (w2 := (wd_88cc5a k n_t n_text n_readPage n_page n_trial n_book n_kept n_isKept n_seenStation n_seenOther n_seenWide n_seenWas n_sines n_at n_column n_gram n_right n_work v_thrown v_textSize v_place v_stations v_readStations v_doings v_seen v_seed v_wide v_up v_low r_page r_sines r_column r_gram r_right r_work)) (va_runV (As := [.ref n_page, .int r20]) (rest := []) ⟨hx, hb, hml, hown, hts⟩ (m_X6_tiedBy l dC dI k F H.size n_t n_page n_text n_readPage n_page n_trial n_book n_kept n_isKept n_seenStation n_seenOther n_seenWide n_seenWas n_sines n_at n_column n_gram n_right n_work v_thrown v_textSize v_place v_stations v_readStations v_doings v_seen v_seed v_wide v_up v_low r_page r20 e23) (cwV 2 hts gX6_blunder_X6_tiedBy rfl rfl rfl (by decide +kernel) ⟨Nat.le_of_ble_eq_true rfl, Nat.le_of_ble_eq_true rfl⟩) (g_preV hG hP hD hS hA [0, 1] rfl (by decide) (ci := 6) (q0 := 0) rfl rfl) rfl rfl hl.1 rfl (lv_room (Nat.le_of_ble_eq_true rfl)) dX6_blunder_12 ⟨Nat.le_of_ble_eq_true rfl, Nat.le_of_ble_eq_true rfl⟩) hP hD hS hA [0, 1] [2, 3, 4, 5, 6] [5, 6, 0, 1, 2, 3, 4] rfl rfl (by decide) (by decide) rfl (by decide) (fun H locs hP hD hS => ?_)
  refine lv_istore_n (lv' := [(1, .int r22), (0, .ref n_t)]) hx hb dX6_blunder_15 rfl hl (by decide) rfl (fun ls hl => ?_)
  refine lv_bipush (v := (-9 : Int32)) hx hb dX6_blunder_16 (by decide) ?_
  refine lv_istore_n (lv' := [(2, .int (-9 : Int32)), (1, .int r22), (0, .ref n_t)]) hx hb dX6_blunder_18 rfl hl (by decide) rfl (fun ls hl => ?_)
  refine lv_lconst (v := (0 : Int64)) hx hb dX6_blunder_19 (by decide) ?_
  refine lv_lstore_n (lv' := [(3, .long (0 : Int64)), (2, .int (-9 : Int32)), (1, .int r22), (0, .ref n_t)]) hx hb dX6_blunder_20 rfl hl (by decide) rfl (fun ls hl => ?_)
  refine lv_lconst (v := (1 : Int64)) hx hb dX6_blunder_21 (by decide) ?_
  refine lv_lstore (lv' := [(5, .long (1 : Int64)), (3, .long (0 : Int64)), (2, .int (-9 : Int32)), (1, .int r22), (0, .ref n_t)]) hx hb dX6_blunder_22 hl (by decide) rfl (fun ls hl => ?_)
  refine lv_iconst (v := (0 : Int32)) hx hb dX6_blunder_24 (by decide) ?_
  refine lv_istore (lv' := [(7, .int (0 : Int32)), (5, .long (1 : Int64)), (3, .long (0 : Int64)), (2, .int (-9 : Int32)), (1, .int r22), (0, .ref n_t)]) hx hb dX6_blunder_25 hl (by decide) rfl (fun ls hl => ?_)
  exact L_27 F _ _ _ _ _ _ _ _ _ _ _ _ _ _ _ (lv_sub hl [5, 4, 3, 2, 1, 0] rfl) hP hD hS hm
set_option maxRecDepth 100000 in
theorem m_X6_blunder (l : Launch) (dC : Nat → ClassId) (dI : Nat → Nat → Nat) (k : Nat → ClassId) (F : Nat) (sz : Nat) (n_t n_text n_readPage n_page n_trial n_book n_kept n_isKept n_seenStation n_seenOther n_seenWide n_seenWas n_sines n_at n_column n_gram n_right n_work : Nat) (v_thrown : Int32) (v_textSize : Int32) (v_place : Int32) (v_stations : Int32) (v_readStations : Int32) (v_doings : Int32) (v_seen : Int32) (v_seed : Int64) (v_wide : Int32) (v_up : Int64) (v_low : Int64) (r_page : Nat → Int32) (r_sines : Nat → Int32) (r_column : Nat → Int32) (r_gram : Nat → Int64) (r_right : Nat → Int64) (r_work : Nat → Int64) {o_r : Int32} {o_v_wide : (Int32)} {o_v_up : (Int64)} {o_v_low : (Int64)} {o_r_column : (Nat → Int32)} {o_r_gram : (Nat → Int64)} {o_r_right : (Nat → Int64)} {o_r_work : (Nat → Int64)} (hm : f_X6_blunder F v_wide v_up v_low r_page r_sines r_column r_gram r_right r_work = some (o_r, o_v_wide, o_v_up, o_v_low, o_r_column, o_r_gram, o_r_right, o_r_work)) : Met l yX6_blunder wsX6_blunder rm_X6_blunder (gPre dC dI k [.ref n_t] sz (wd_88cc5a k n_t n_text n_readPage n_page n_trial n_book n_kept n_isKept n_seenStation n_seenOther n_seenWide n_seenWas n_sines n_at n_column n_gram n_right n_work v_thrown v_textSize v_place v_stations v_readStations v_doings v_seen v_seed v_wide v_up v_low r_page r_sines r_column r_gram r_right r_work)) (gQI dC dI (va_A (wd_88cc5a k n_t n_text n_readPage n_page n_trial n_book n_kept n_isKept n_seenStation n_seenOther n_seenWide n_seenWas n_sines n_at n_column n_gram n_right n_work v_thrown v_textSize v_place v_stations v_readStations v_doings v_seen v_seed v_wide v_up v_low r_page r_sines r_column r_gram r_right r_work) sz) o_r (wd_88cc5a k n_t n_text n_readPage n_page n_trial n_book n_kept n_isKept n_seenStation n_seenOther n_seenWide n_seenWas n_sines n_at n_column n_gram n_right n_work v_thrown v_textSize v_place v_stations v_readStations v_doings v_seen v_seed o_v_wide o_v_up o_v_low r_page r_sines o_r_column o_r_gram o_r_right o_r_work)) 0 0 (va_A (wd_88cc5a k n_t n_text n_readPage n_page n_trial n_book n_kept n_isKept n_seenStation n_seenOther n_seenWide n_seenWas n_sines n_at n_column n_gram n_right n_work v_thrown v_textSize v_place v_stations v_readStations v_doings v_seen v_seed v_wide v_up v_low r_page r_sines r_column r_gram r_right r_work) sz) := by
  refine g_entry (cc := cX6_blunder) (maxL := 9) (ret := (some .int)) (lv := [(0, .ref n_t)]) (by decide +kernel) rfl (Nat.le_of_ble_eq_true rfl) rfl (fun p e s m below meth c ls hx hb hr hml hts hown hlk hnm hsz hG hA hP hD hS hl => ?_)
  exact k_X6_blunder hx hb hml hts hown hG hA F n_t n_text n_readPage n_page n_trial n_book n_kept n_isKept n_seenStation n_seenOther n_seenWide n_seenWas n_sines n_at n_column n_gram n_right n_work v_thrown v_textSize v_place v_stations v_readStations v_doings v_seen v_seed v_wide v_up v_low r_page r_sines r_column r_gram r_right r_work o_r o_v_wide o_v_up o_v_low o_r_column o_r_gram o_r_right o_r_work (fun pc H locs ls v q_v_wide q_v_up q_v_low q_r_column q_r_gram q_r_right q_r_work hd ho hP hD hS => by cases ho; exact g_ireti hx hb hr hlk hP hD hS hd) s.heap [] ls hl hP hD hS hm
end
section
set_option maxHeartbeats 4000000 in
set_option maxRecDepth 100000 in
theorem k_X6_clearOnes {p : Program} {l : Launch} {e : Env} {s : State} {m : MethodId} {args : Array Value} {below : List Frame} {meth : Method} {c : Code} {A : Nat → Prop} {Q : State → Prop} {dC : Nat → ClassId} {dI : Nat → Nat → Nat} {k : Nat → ClassId} (hx : p.tables.exec = Jvm.exec) (hb : c.code = cX6_clearOnes) (hml : c.maxLocals = 5) (hts : ∀ w ∈ wsX6_clearOnes, w.before args s = true) (hown : s.vm.findClass RX6 = some m.cls) (hG : gK dC dI k A s) (hA : ∀ q : Nat, s.heap.size ≤ q → A q) (F : Nat) (n_t n_text n_readPage n_page n_trial n_book n_kept n_isKept n_seenStation n_seenOther n_seenWide n_seenWas n_sines n_at n_column n_gram n_right n_work : Nat) (v_thrown : Int32) (v_textSize : Int32) (v_place : Int32) (v_stations : Int32) (v_readStations : Int32) (v_doings : Int32) (v_seen : Int32) (v_seed : Int64) (v_wide : Int32) (v_up : Int64) (v_low : Int64) (r_page : Nat → Int32) (r_sines : Nat → Int32) (r_column : Nat → Int32) (r_gram : Nat → Int64) (r_right : Nat → Int64) (r_work : Nat → Int64) (o_r : Int32) (o_v_wide : (Int32)) (o_v_up : (Int64)) (o_v_low : (Int64)) (o_r_column : (Nat → Int32)) (o_r_gram : (Nat → Int64)) (o_r_right : (Nat → Int64)) (o_r_work : (Nat → Int64)) (RET : ∀ (pc : Nat) (H : Heap) (locs : List Loc) (ls : Array Slot) (v : Int32) (q_v_wide : Int32) (q_v_up : Int64) (q_v_low : Int64) (q_r_column : Nat → Int32) (q_r_gram : Nat → Int64) (q_r_right : Nat → Int64) (q_r_work : Nat → Int64), decode cX6_clearOnes pc = .ok (.ireturn, 1) → some (v, q_v_wide, q_v_up, q_v_low, q_r_column, q_r_gram, q_r_right, q_r_work) = some (o_r, o_v_wide, o_v_up, o_v_low, o_r_column, o_r_gram, o_r_right, o_r_work) → va_P (dC, dI) vwCl (wd_88cc5a k n_t n_text n_readPage n_page n_trial n_book n_kept n_isKept n_seenStation n_seenOther n_seenWide n_seenWas n_sines n_at n_column n_gram n_right n_work v_thrown v_textSize v_place v_stations v_readStations v_doings v_seen v_seed q_v_wide q_v_up q_v_low r_page r_sines q_r_column q_r_gram q_r_right q_r_work) H → va_D A (wd_88cc5a k n_t n_text n_readPage n_page n_trial n_book n_kept n_isKept n_seenStation n_seenOther n_seenWide n_seenWas n_sines n_at n_column n_gram n_right n_work v_thrown v_textSize v_place v_stations v_readStations v_doings v_seen v_seed q_v_wide q_v_up q_v_low r_page r_sines q_r_column q_r_gram q_r_right q_r_work) → va_S A s.heap H locs → W p l e rm_X6_clearOnes s m args below meth c H locs 0 0 Q (F0 m pc ls [.int v])) (H : Heap) (locs : List Loc) (ls : Array Slot) (hl : lv_has ls 5 [(0, .ref n_t)]) (hP : va_P (dC, dI) vwCl (wd_88cc5a k n_t n_text n_readPage n_page n_trial n_book n_kept n_isKept n_seenStation n_seenOther n_seenWide n_seenWas n_sines n_at n_column n_gram n_right n_work v_thrown v_textSize v_place v_stations v_readStations v_doings v_seen v_seed v_wide v_up v_low r_page r_sines r_column r_gram r_right r_work) H) (hD : va_D A (wd_88cc5a k n_t n_text n_readPage n_page n_trial n_book n_kept n_isKept n_seenStation n_seenOther n_seenWide n_seenWas n_sines n_at n_column n_gram n_right n_work v_thrown v_textSize v_place v_stations v_readStations v_doings v_seen v_seed v_wide v_up v_low r_page r_sines r_column r_gram r_right r_work)) (hS : va_S A s.heap H locs) (hm : f_X6_clearOnes F v_wide v_up v_low r_page r_sines r_column r_gram r_right r_work = some (o_r, o_v_wide, o_v_up, o_v_low, o_r_column, o_r_gram, o_r_right, o_r_work)) : W p l e rm_X6_clearOnes s m args below meth c H locs 0 0 Q (F0 m 0 ls []) := by
  have hinX6 : ∀ w ∈ u_ws RX6 TX6 28, w ∈ wsX6_clearOnes := by decide +kernel
  have k0 := hts (.fieldLink RX6 20 "CaveLegsModel" "page" "[I") (by decide +kernel)
  have k1 := hts (.fieldLink RX6 186 "CaveLegsModel" "up" "J") (by decide +kernel)
  have L_20 : ∀ (n20 : Nat) (v_wide : Int32) (v_up : Int64) (v_low : Int64) (r_column : Nat → Int32) (r_gram : Nat → Int64) (r_right : Nat → Int64) (r_work : Nat → Int64) (x1 : Int32) (x2 : Int32) (x3 : Int32) (H : Heap) (locs : List Loc) (ls : Array Slot), lv_has ls 5 [(0, .ref n_t), (1, .int x1), (2, .int x2), (3, .int x3)] → va_P (dC, dI) vwCl (wd_88cc5a k n_t n_text n_readPage n_page n_trial n_book n_kept n_isKept n_seenStation n_seenOther n_seenWide n_seenWas n_sines n_at n_column n_gram n_right n_work v_thrown v_textSize v_place v_stations v_readStations v_doings v_seen v_seed v_wide v_up v_low r_page r_sines r_column r_gram r_right r_work) H → va_D A (wd_88cc5a k n_t n_text n_readPage n_page n_trial n_book n_kept n_isKept n_seenStation n_seenOther n_seenWide n_seenWas n_sines n_at n_column n_gram n_right n_work v_thrown v_textSize v_place v_stations v_readStations v_doings v_seen v_seed v_wide v_up v_low r_page r_sines r_column r_gram r_right r_work) → va_S A s.heap H locs → f_X6_clearOnes_L20 F r_page r_sines n20 v_wide v_up v_low r_column r_gram r_right r_work x1 x2 x3 = some (o_r, o_v_wide, o_v_up, o_v_low, o_r_column, o_r_gram, o_r_right, o_r_work) → W p l e rm_X6_clearOnes s m args below meth c H locs 0 0 Q (F0 m 20 ls []) := by
    intro n20
    induction n20 with
    | zero =>
      intro v_wide v_up v_low r_column r_gram r_right r_work x1 x2 x3 H locs ls hl hP hD hS hm
      exact non_some hm
    | succ n20 ih20 =>
      have J_89 : ∀ (v_wide : Int32) (v_up : Int64) (v_low : Int64) (r_column : Nat → Int32) (r_gram : Nat → Int64) (r_right : Nat → Int64) (r_work : Nat → Int64) (x1 : Int32) (x2 : Int32) (x3 : Int32) (H : Heap) (locs : List Loc) (ls : Array Slot), lv_has ls 5 [(0, .ref n_t), (1, .int x1), (2, .int x2), (3, .int x3)] → va_P (dC, dI) vwCl (wd_88cc5a k n_t n_text n_readPage n_page n_trial n_book n_kept n_isKept n_seenStation n_seenOther n_seenWide n_seenWas n_sines n_at n_column n_gram n_right n_work v_thrown v_textSize v_place v_stations v_readStations v_doings v_seen v_seed v_wide v_up v_low r_page r_sines r_column r_gram r_right r_work) H → va_D A (wd_88cc5a k n_t n_text n_readPage n_page n_trial n_book n_kept n_isKept n_seenStation n_seenOther n_seenWide n_seenWas n_sines n_at n_column n_gram n_right n_work v_thrown v_textSize v_place v_stations v_readStations v_doings v_seen v_seed v_wide v_up v_low r_page r_sines r_column r_gram r_right r_work) → va_S A s.heap H locs → f_X6_clearOnes_J89 F r_page r_sines (f_X6_clearOnes_L20 F r_page r_sines n20) v_wide v_up v_low r_column r_gram r_right r_work x1 x2 x3 = some (o_r, o_v_wide, o_v_up, o_v_low, o_r_column, o_r_gram, o_r_right, o_r_work) → W p l e rm_X6_clearOnes s m args below meth c H locs 0 0 Q (F0 m 89 ls []) := by
        intro v_wide v_up v_low r_column r_gram r_right r_work x1 x2 x3 H locs ls hl hP hD hS hm
        unfold f_X6_clearOnes_J89 at hm
        obtain ⟨t1, et1⟩ : ∃ y : Int32, y = x3 + (1 : Int32) := ⟨_, rfl⟩
        replace hm := (nmd_eq et1).trans hm
        refine lv_iinc (v := t1) (lv' := [(3, .int t1), (0, .ref n_t), (1, .int x1), (2, .int x2)]) hx hb dX6_clearOnes_89 hl (k := 3) rfl (by rw [et1]; rfl) (by decide) rfl (fun ls hl => ?_)
        refine lv_goto (tgt := 20) hx hb dX6_clearOnes_92 (by decide) ?_
        exact ih20 _ _ _ _ _ _ _ _ _ _ _ _ _ (lv_sub hl [1, 2, 3, 0] rfl) hP hD hS hm
      have J_87 : ∀ (v_wide : Int32) (v_up : Int64) (v_low : Int64) (r_column : Nat → Int32) (r_gram : Nat → Int64) (r_right : Nat → Int64) (r_work : Nat → Int64) (x1 : Int32) (x3 : Int32) (s0 : Int32) (s1 : Int32) (H : Heap) (locs : List Loc) (ls : Array Slot), lv_has ls 5 [(0, .ref n_t), (1, .int x1), (3, .int x3)] → va_P (dC, dI) vwCl (wd_88cc5a k n_t n_text n_readPage n_page n_trial n_book n_kept n_isKept n_seenStation n_seenOther n_seenWide n_seenWas n_sines n_at n_column n_gram n_right n_work v_thrown v_textSize v_place v_stations v_readStations v_doings v_seen v_seed v_wide v_up v_low r_page r_sines r_column r_gram r_right r_work) H → va_D A (wd_88cc5a k n_t n_text n_readPage n_page n_trial n_book n_kept n_isKept n_seenStation n_seenOther n_seenWide n_seenWas n_sines n_at n_column n_gram n_right n_work v_thrown v_textSize v_place v_stations v_readStations v_doings v_seen v_seed v_wide v_up v_low r_page r_sines r_column r_gram r_right r_work) → va_S A s.heap H locs → f_X6_clearOnes_J87 F r_page r_sines (f_X6_clearOnes_L20 F r_page r_sines n20) v_wide v_up v_low r_column r_gram r_right r_work x1 x3 s0 s1 = some (o_r, o_v_wide, o_v_up, o_v_low, o_r_column, o_r_gram, o_r_right, o_r_work) → W p l e rm_X6_clearOnes s m args below meth c H locs 0 0 Q (F0 m 87 ls [.int s1, .int s0]) := by
        intro v_wide v_up v_low r_column r_gram r_right r_work x1 x3 s0 s1 H locs ls hl hP hD hS hm
        unfold f_X6_clearOnes_J87 at hm
        refine lv_ior hx hb dX6_clearOnes_87 ?_
        refine lv_topi (fun t2 et2 => ?_)
        replace hm := (nmd_eq et2).trans hm
        refine lv_istore_n (lv' := [(2, .int t2), (0, .ref n_t), (1, .int x1), (3, .int x3)]) hx hb dX6_clearOnes_88 rfl hl (by decide) rfl (fun ls hl => ?_)
        exact J_89 _ _ _ _ _ _ _ _ _ _ _ _ _ (lv_sub hl [1, 2, 0, 3] rfl) hP hD hS hm
      intro v_wide v_up v_low r_column r_gram r_right r_work x1 x2 x3 H locs ls hl hP hD hS hm
      replace hm : f_X6_clearOnes_B20 F r_page r_sines (f_X6_clearOnes_L20 F r_page r_sines n20) v_wide v_up v_low r_column r_gram r_right r_work x1 x2 x3 = some (o_r, o_v_wide, o_v_up, o_v_low, o_r_column, o_r_gram, o_r_right, o_r_work) := hm
      unfold f_X6_clearOnes_B20 at hm
      refine lv_iload_n hx hb dX6_clearOnes_20 rfl (lv_at hl 3 rfl) ?_
      refine lv_aload_n hx hb dX6_clearOnes_21 rfl (lv_at hl 0 rfl) ?_
      refine va_get (D := (dC, dI)) (ci := 6) (v := .ref n_page) (C := RX6) (T := TX6) (N := 28) hx hb hts hinX6 hown hG.1 hP 0 rfl rfl 7 (by decide) k0 (fun _ h9 => h9) rfl dX6_clearOnes_22 ?_
      refine lv_iconst (v := (0 : Int32)) hx hb dX6_clearOnes_25 (by decide) ?_
      obtain ⟨hi3, hm⟩ := chk_some hm
      refine va_iald hx hb hG.1 hP 1 0 rfl rfl hi3 dX6_clearOnes_26 ?_
      refine lv_icmp_ge (tgt := 95) hx hb dX6_clearOnes_27 (by decide) (fun c4 => ?_) (fun c4 => ?_)
      · replace hm := ifp c4 hm
        refine lv_iload_n hx hb dX6_clearOnes_95 rfl (lv_at hl 2 rfl) ?_
        exact RET _ _ _ _ _ _ _ _ _ _ _ _ dX6_clearOnes_96 hm hP hD hS
      · replace hm := ifn c4 hm
        refine lv_aload_n hx hb dX6_clearOnes_30 rfl (lv_at hl 0 rfl) ?_
        refine va_get (D := (dC, dI)) (ci := 6) (v := .ref n_page) (C := RX6) (T := TX6) (N := 28) hx hb hts hinX6 hown hG.1 hP 0 rfl rfl 7 (by decide) k0 (fun _ h9 => h9) rfl dX6_clearOnes_31 ?_
        obtain ⟨r5, e6, hm⟩ := bnd1_some hm
        refine g_calli (w2 := (wd_88cc5a k n_t n_text n_readPage n_page n_trial n_book n_kept n_isKept n_seenStation n_seenOther n_seenWide n_seenWas n_sines n_at n_column n_gram n_right n_work v_thrown v_textSize v_place v_stations v_readStations v_doings v_seen v_seed v_wide v_up v_low r_page r_sines r_column r_gram r_right r_work)) (va_runS (As := [.ref n_page]) (rest := []) ⟨hx, hb, hml, hown, hts⟩ (m_X6_all l dC dI k H.size n_page r_page  e6) (va_cwS 1 hts gX6_clearOnes_X6_all rfl rfl rfl (by decide +kernel) ⟨Nat.le_of_ble_eq_true rfl, Nat.le_of_ble_eq_true rfl⟩) (g_preS hG hP hD hS hA [1] rfl (by decide)) rfl rfl hl.1 rfl (lv_room (Nat.le_of_ble_eq_true rfl)) dX6_clearOnes_34 ⟨Nat.le_of_ble_eq_true rfl, Nat.le_of_ble_eq_true rfl⟩) hP hD hS hA [1] [0, 2, 3, 4, 5, 6] [0, 6, 1, 2, 3, 4, 5] rfl rfl (by decide) (by decide) rfl (by decide) (fun H locs hP hD hS => ?_)
        refine lv_iconst (v := (1 : Int32)) hx hb dX6_clearOnes_37 (by decide) ?_
        refine lv_iload_n hx hb dX6_clearOnes_38 rfl (lv_at hl 3 rfl) ?_
        refine g_ishl hx hb dX6_clearOnes_39 ?_
        refine lv_iconst (v := (-1 : Int32)) hx hb dX6_clearOnes_40 (by decide) ?_
        refine lv_ixor hx hb dX6_clearOnes_41 ?_
        refine lv_iand hx hb dX6_clearOnes_42 ?_
        refine lv_topi (fun t7 et7 => ?_)
        replace hm := (nmd_eq et7).trans hm
        refine lv_istore (lv' := [(4, .int t7), (0, .ref n_t), (1, .int x1), (2, .int x2), (3, .int x3)]) hx hb dX6_clearOnes_43 hl (by decide) rfl (fun ls hl => ?_)
        refine lv_aload_n hx hb dX6_clearOnes_45 rfl (lv_at hl 1 rfl) ?_
        refine lv_aload_n hx hb dX6_clearOnes_46 rfl (lv_at hl 1 rfl) ?_
        refine va_get (D := (dC, dI)) (ci := 6) (v := .ref n_page) (C := RX6) (T := TX6) (N := 28) hx hb hts hinX6 hown hG.1 hP 0 rfl rfl 7 (by decide) k0 (fun _ h9 => h9) rfl dX6_clearOnes_47 ?_
        refine lv_iload hx hb dX6_clearOnes_50 (lv_at hl 0 rfl) ?_
        obtain ⟨r8, e9, hm⟩ := bnd1_some hm
        refine g_calli (w2 := (wd_88cc5a k n_t n_text n_readPage n_page n_trial n_book n_kept n_isKept n_seenStation n_seenOther n_seenWide n_seenWas n_sines n_at n_column n_gram n_right n_work v_thrown v_textSize v_place v_stations v_readStations v_doings v_seen v_seed v_wide v_up v_low r_page r_sines r_column r_gram r_right r_work)) (va_runV (As := [.ref n_page, .int t7]) (rest := []) ⟨hx, hb, hml, hown, hts⟩ (m_X6_tiedBy l dC dI k F H.size n_t n_page n_text n_readPage n_page n_trial n_book n_kept n_isKept n_seenStation n_seenOther n_seenWide n_seenWas n_sines n_at n_column n_gram n_right n_work v_thrown v_textSize v_place v_stations v_readStations v_doings v_seen v_seed v_wide v_up v_low r_page t7 e9) (cwV 2 hts gX6_clearOnes_X6_tiedBy rfl rfl rfl (by decide +kernel) ⟨Nat.le_of_ble_eq_true rfl, Nat.le_of_ble_eq_true rfl⟩) (g_preV hG hP hD hS hA [0, 1] rfl (by decide) (ci := 6) (q0 := 0) rfl rfl) rfl rfl hl.1 rfl (lv_room (Nat.le_of_ble_eq_true rfl)) dX6_clearOnes_52 ⟨Nat.le_of_ble_eq_true rfl, Nat.le_of_ble_eq_true rfl⟩) hP hD hS hA [0, 1] [2, 3, 4, 5, 6] [5, 6, 0, 1, 2, 3, 4] rfl rfl (by decide) (by decide) rfl (by decide) (fun H locs hP hD hS => ?_)
        refine lv_iload_n hx hb dX6_clearOnes_55 rfl (lv_at hl 2 rfl) ?_
        refine lv_icmp_ne (tgt := 89) hx hb dX6_clearOnes_56 (by decide) (fun c10 => ?_) (fun c10 => ?_)
        · replace hm := ifn c10 hm
          exact J_89 _ _ _ _ _ _ _ _ _ _ _ _ _ (lv_sub hl [1, 2, 3, 4] rfl) hP hD hS hm
        · replace hm := ifp c10 hm
          refine lv_aload_n hx hb dX6_clearOnes_59 rfl (lv_at hl 1 rfl) ?_
          refine lv_aload_n hx hb dX6_clearOnes_60 rfl (lv_at hl 1 rfl) ?_
          refine va_get (D := (dC, dI)) (ci := 6) (v := .ref n_page) (C := RX6) (T := TX6) (N := 28) hx hb hts hinX6 hown hG.1 hP 0 rfl rfl 7 (by decide) k0 (fun _ h9 => h9) rfl dX6_clearOnes_61 ?_
          refine lv_iload hx hb dX6_clearOnes_64 (lv_at hl 0 rfl) ?_
          refine lv_iload_n hx hb dX6_clearOnes_66 rfl (lv_at hl 2 rfl) ?_
          obtain ⟨w11, w12, w13, w14, w15, w16, w17, e18, hm⟩ := bnd7_some hm
          refine g_callv (w2 := (wd_88cc5a k n_t n_text n_readPage n_page n_trial n_book n_kept n_isKept n_seenStation n_seenOther n_seenWide n_seenWas n_sines n_at n_column n_gram n_right n_work v_thrown v_textSize v_place v_stations v_readStations v_doings v_seen v_seed w11 w12 w13 r_page r_sines w14 w15 w16 w17)) (va_runV (As := [.ref n_page, .int t7, .int x1]) (rest := []) ⟨hx, hb, hml, hown, hts⟩ (m_X6_laySquares l dC dI k F H.size n_t n_page n_text n_readPage n_page n_trial n_book n_kept n_isKept n_seenStation n_seenOther n_seenWide n_seenWas n_sines n_at n_column n_gram n_right n_work v_thrown v_textSize v_place v_stations v_readStations v_doings v_seen v_seed v_wide v_up v_low r_sines r_column r_gram r_right r_work r_page t7 x1 e18) (cwV 3 hts gX6_clearOnes_X6_laySquares rfl rfl rfl (by decide +kernel) ⟨Nat.le_of_ble_eq_true rfl, Nat.le_of_ble_eq_true rfl⟩) (g_preV hG hP hD hS hA [0, 2, 3, 4, 5, 6, 1] rfl (by decide) (ci := 6) (q0 := 0) rfl rfl) rfl rfl hl.1 rfl (lv_room (Nat.le_of_ble_eq_true rfl)) dX6_clearOnes_67 ⟨Nat.le_of_ble_eq_true rfl, Nat.le_of_ble_eq_true rfl⟩) hP hD hS hA [0, 2, 3, 4, 5, 6, 1] [] [0, 6, 1, 2, 3, 4, 5] rfl rfl (by decide) (by decide) rfl (by decide) (fun H locs hP hD hS => ?_)
          refine lv_iload_n hx hb dX6_clearOnes_70 rfl (lv_at hl 3 rfl) ?_
          refine lv_aload_n hx hb dX6_clearOnes_71 rfl (lv_at hl 1 rfl) ?_
          refine va_get (D := (dC, dI)) (ci := 6) (v := .long w12) (C := RX6) (T := TX6) (N := 28) hx hb hts hinX6 hown hG.1 hP 0 rfl rfl 26 (by decide) k1 (fun _ h9 => h9) rfl dX6_clearOnes_72 ?_
          refine lv_lconst (v := (0 : Int64)) hx hb dX6_clearOnes_75 (by decide) ?_
          refine g_lcmp_ne (tgt := 86) hx hb dX6_clearOnes_76 rfl dX6_clearOnes_77 (by decide) (fun c19 => ?_) (fun c19 => ?_)
          · replace hm := ifn c19 hm
            refine lv_iconst (v := (0 : Int32)) hx hb dX6_clearOnes_86 (by decide) ?_
            exact J_87 _ _ _ _ _ _ _ _ _ _ _ _ _ _ (lv_sub hl [1, 2, 4] rfl) hP hD hS hm
          · replace hm := ifp c19 hm
            refine lv_iconst (v := (1 : Int32)) hx hb dX6_clearOnes_80 (by decide) ?_
            refine lv_iload_n hx hb dX6_clearOnes_81 rfl (lv_at hl 4 rfl) ?_
            refine g_ishl hx hb dX6_clearOnes_82 ?_
            refine lv_goto (tgt := 87) hx hb dX6_clearOnes_83 (by decide) ?_
            exact J_87 _ _ _ _ _ _ _ _ _ _ _ _ _ _ (lv_sub hl [1, 2, 4] rfl) hP hD hS hm
  unfold f_X6_clearOnes at hm
  refine lv_aload_n hx hb dX6_clearOnes_0 rfl (lv_at hl 0 rfl) ?_
  refine lv_aload_n hx hb dX6_clearOnes_1 rfl (lv_at hl 0 rfl) ?_
  refine va_get (D := (dC, dI)) (ci := 6) (v := .ref n_page) (C := RX6) (T := TX6) (N := 28) hx hb hts hinX6 hown hG.1 hP 0 rfl rfl 7 (by decide) k0 (fun _ h9 => h9) rfl dX6_clearOnes_2 ?_
  refine lv_aload_n hx hb dX6_clearOnes_5 rfl (lv_at hl 0 rfl) ?_
  refine va_get (D := (dC, dI)) (ci := 6) (v := .ref n_page) (C := RX6) (T := TX6) (N := 28) hx hb hts hinX6 hown hG.1 hP 0 rfl rfl 7 (by decide) k0 (fun _ h9 => h9) rfl dX6_clearOnes_6 ?_
  obtain ⟨r20, e21, hm⟩ := bnd1_some hm
  refine g_calli (w2 := (wd_88cc5a k n_t n_text n_readPage n_page n_trial n_book n_kept n_isKept n_seenStation n_seenOther n_seenWide n_seenWas n_sines n_at n_column n_gram n_right n_work v_thrown v_textSize v_place v_stations v_readStations v_doings v_seen v_seed v_wide v_up v_low r_page r_sines r_column r_gram r_right r_work)) (va_runS (As := [.ref n_page]) (rest := [.ref n_page, .ref n_t]) ⟨hx, hb, hml, hown, hts⟩ (m_X6_all l dC dI k H.size n_page r_page  e21) (va_cwS 1 hts gX6_clearOnes_X6_all rfl rfl rfl (by decide +kernel) ⟨Nat.le_of_ble_eq_true rfl, Nat.le_of_ble_eq_true rfl⟩) (g_preS hG hP hD hS hA [1] rfl (by decide)) rfl rfl hl.1 rfl (lv_room (Nat.le_of_ble_eq_true rfl)) dX6_clearOnes_9 ⟨Nat.le_of_ble_eq_true rfl, Nat.le_of_ble_eq_true rfl⟩) hP hD hS hA [1] [0, 2, 3, 4, 5, 6] [0, 6, 1, 2, 3, 4, 5] rfl rfl (by decide) (by decide) rfl (by decide) (fun H locs hP hD hS => ?_)
  obtain ⟨r22, e23, hm⟩ := bnd1_some hm
  refine g_calli (w2 := (wd_88cc5a k n_t n_text n_readPage n_page n_trial n_book n_kept n_isKept n_seenStation n_seenOther n_seenWide n_seenWas n_sines n_at n_column n_gram n_right n_work v_thrown v_textSize v_place v_stations v_readStations v_doings v_seen v_seed v_wide v_up v_low r_page r_sines r_column r_gram r_right r_work)) (va_runV (As := [.ref n_page, .int r20]) (rest := []) ⟨hx, hb, hml, hown, hts⟩ (m_X6_tiedBy l dC dI k F H.size n_t n_page n_text n_readPage n_page n_trial n_book n_kept n_isKept n_seenStation n_seenOther n_seenWide n_seenWas n_sines n_at n_column n_gram n_right n_work v_thrown v_textSize v_place v_stations v_readStations v_doings v_seen v_seed v_wide v_up v_low r_page r20 e23) (cwV 2 hts gX6_clearOnes_X6_tiedBy rfl rfl rfl (by decide +kernel) ⟨Nat.le_of_ble_eq_true rfl, Nat.le_of_ble_eq_true rfl⟩) (g_preV hG hP hD hS hA [0, 1] rfl (by decide) (ci := 6) (q0 := 0) rfl rfl) rfl rfl hl.1 rfl (lv_room (Nat.le_of_ble_eq_true rfl)) dX6_clearOnes_12 ⟨Nat.le_of_ble_eq_true rfl, Nat.le_of_ble_eq_true rfl⟩) hP hD hS hA [0, 1] [2, 3, 4, 5, 6] [5, 6, 0, 1, 2, 3, 4] rfl rfl (by decide) (by decide) rfl (by decide) (fun H locs hP hD hS => ?_)
  refine lv_istore_n (lv' := [(1, .int r22), (0, .ref n_t)]) hx hb dX6_clearOnes_15 rfl hl (by decide) rfl (fun ls hl => ?_)
  refine lv_iconst (v := (0 : Int32)) hx hb dX6_clearOnes_16 (by decide) ?_
  refine lv_istore_n (lv' := [(2, .int (0 : Int32)), (1, .int r22), (0, .ref n_t)]) hx hb dX6_clearOnes_17 rfl hl (by decide) rfl (fun ls hl => ?_)
  refine lv_iconst (v := (0 : Int32)) hx hb dX6_clearOnes_18 (by decide) ?_
  refine lv_istore_n (lv' := [(3, .int (0 : Int32)), (2, .int (0 : Int32)), (1, .int r22), (0, .ref n_t)]) hx hb dX6_clearOnes_19 rfl hl (by decide) rfl (fun ls hl => ?_)
  exact L_20 F _ _ _ _ _ _ _ _ _ _ _ _ _ (lv_sub hl [3, 2, 1, 0] rfl) hP hD hS hm
set_option maxRecDepth 100000 in
theorem m_X6_clearOnes (l : Launch) (dC : Nat → ClassId) (dI : Nat → Nat → Nat) (k : Nat → ClassId) (F : Nat) (sz : Nat) (n_t n_text n_readPage n_page n_trial n_book n_kept n_isKept n_seenStation n_seenOther n_seenWide n_seenWas n_sines n_at n_column n_gram n_right n_work : Nat) (v_thrown : Int32) (v_textSize : Int32) (v_place : Int32) (v_stations : Int32) (v_readStations : Int32) (v_doings : Int32) (v_seen : Int32) (v_seed : Int64) (v_wide : Int32) (v_up : Int64) (v_low : Int64) (r_page : Nat → Int32) (r_sines : Nat → Int32) (r_column : Nat → Int32) (r_gram : Nat → Int64) (r_right : Nat → Int64) (r_work : Nat → Int64) {o_r : Int32} {o_v_wide : (Int32)} {o_v_up : (Int64)} {o_v_low : (Int64)} {o_r_column : (Nat → Int32)} {o_r_gram : (Nat → Int64)} {o_r_right : (Nat → Int64)} {o_r_work : (Nat → Int64)} (hm : f_X6_clearOnes F v_wide v_up v_low r_page r_sines r_column r_gram r_right r_work = some (o_r, o_v_wide, o_v_up, o_v_low, o_r_column, o_r_gram, o_r_right, o_r_work)) : Met l yX6_clearOnes wsX6_clearOnes rm_X6_clearOnes (gPre dC dI k [.ref n_t] sz (wd_88cc5a k n_t n_text n_readPage n_page n_trial n_book n_kept n_isKept n_seenStation n_seenOther n_seenWide n_seenWas n_sines n_at n_column n_gram n_right n_work v_thrown v_textSize v_place v_stations v_readStations v_doings v_seen v_seed v_wide v_up v_low r_page r_sines r_column r_gram r_right r_work)) (gQI dC dI (va_A (wd_88cc5a k n_t n_text n_readPage n_page n_trial n_book n_kept n_isKept n_seenStation n_seenOther n_seenWide n_seenWas n_sines n_at n_column n_gram n_right n_work v_thrown v_textSize v_place v_stations v_readStations v_doings v_seen v_seed v_wide v_up v_low r_page r_sines r_column r_gram r_right r_work) sz) o_r (wd_88cc5a k n_t n_text n_readPage n_page n_trial n_book n_kept n_isKept n_seenStation n_seenOther n_seenWide n_seenWas n_sines n_at n_column n_gram n_right n_work v_thrown v_textSize v_place v_stations v_readStations v_doings v_seen v_seed o_v_wide o_v_up o_v_low r_page r_sines o_r_column o_r_gram o_r_right o_r_work)) 0 0 (va_A (wd_88cc5a k n_t n_text n_readPage n_page n_trial n_book n_kept n_isKept n_seenStation n_seenOther n_seenWide n_seenWas n_sines n_at n_column n_gram n_right n_work v_thrown v_textSize v_place v_stations v_readStations v_doings v_seen v_seed v_wide v_up v_low r_page r_sines r_column r_gram r_right r_work) sz) := by
  refine g_entry (cc := cX6_clearOnes) (maxL := 5) (ret := (some .int)) (lv := [(0, .ref n_t)]) (by decide +kernel) rfl (Nat.le_of_ble_eq_true rfl) rfl (fun p e s m below meth c ls hx hb hr hml hts hown hlk hnm hsz hG hA hP hD hS hl => ?_)
  exact k_X6_clearOnes hx hb hml hts hown hG hA F n_t n_text n_readPage n_page n_trial n_book n_kept n_isKept n_seenStation n_seenOther n_seenWide n_seenWas n_sines n_at n_column n_gram n_right n_work v_thrown v_textSize v_place v_stations v_readStations v_doings v_seen v_seed v_wide v_up v_low r_page r_sines r_column r_gram r_right r_work o_r o_v_wide o_v_up o_v_low o_r_column o_r_gram o_r_right o_r_work (fun pc H locs ls v q_v_wide q_v_up q_v_low q_r_column q_r_gram q_r_right q_r_work hd ho hP hD hS => by cases ho; exact g_ireti hx hb hr hlk hP hD hS hd) s.heap [] ls hl hP hD hS hm
end
section
set_option maxHeartbeats 4000000 in
set_option maxRecDepth 100000 in
theorem k_X6_ask {p : Program} {l : Launch} {e : Env} {s : State} {m : MethodId} {args : Array Value} {below : List Frame} {meth : Method} {c : Code} {A : Nat → Prop} {Q : State → Prop} {dC : Nat → ClassId} {dI : Nat → Nat → Nat} {k : Nat → ClassId} (hx : p.tables.exec = Jvm.exec) (hb : c.code = cX6_ask) (hml : c.maxLocals = 2) (hts : ∀ w ∈ wsX6_ask, w.before args s = true) (hown : s.vm.findClass RX6 = some m.cls) (hG : gK dC dI k A s) (hA : ∀ q : Nat, s.heap.size ≤ q → A q) (F : Nat) (n_t n_text n_readPage n_page n_trial n_book n_kept n_isKept n_seenStation n_seenOther n_seenWide n_seenWas n_sines n_at n_column n_gram n_right n_work : Nat) (v_thrown : Int32) (v_textSize : Int32) (v_place : Int32) (v_stations : Int32) (v_readStations : Int32) (v_doings : Int32) (v_seen : Int32) (v_seed : Int64) (v_wide : Int32) (v_up : Int64) (v_low : Int64) (r_page : Nat → Int32) (r_sines : Nat → Int32) (r_column : Nat → Int32) (r_gram : Nat → Int64) (r_right : Nat → Int64) (r_work : Nat → Int64) (x1 : Int32) (o_r : Int32) (o_v_thrown : (Int32)) (o_v_wide : (Int32)) (o_v_up : (Int64)) (o_v_low : (Int64)) (o_r_column : (Nat → Int32)) (o_r_gram : (Nat → Int64)) (o_r_right : (Nat → Int64)) (o_r_work : (Nat → Int64)) (RET : ∀ (pc : Nat) (H : Heap) (locs : List Loc) (ls : Array Slot) (v : Int32) (q_v_thrown : Int32) (q_v_wide : Int32) (q_v_up : Int64) (q_v_low : Int64) (q_r_column : Nat → Int32) (q_r_gram : Nat → Int64) (q_r_right : Nat → Int64) (q_r_work : Nat → Int64), decode cX6_ask pc = .ok (.ireturn, 1) → some (v, q_v_thrown, q_v_wide, q_v_up, q_v_low, q_r_column, q_r_gram, q_r_right, q_r_work) = some (o_r, o_v_thrown, o_v_wide, o_v_up, o_v_low, o_r_column, o_r_gram, o_r_right, o_r_work) → va_P (dC, dI) vwCl (wd_88cc5a k n_t n_text n_readPage n_page n_trial n_book n_kept n_isKept n_seenStation n_seenOther n_seenWide n_seenWas n_sines n_at n_column n_gram n_right n_work q_v_thrown v_textSize v_place v_stations v_readStations v_doings v_seen v_seed q_v_wide q_v_up q_v_low r_page r_sines q_r_column q_r_gram q_r_right q_r_work) H → va_D A (wd_88cc5a k n_t n_text n_readPage n_page n_trial n_book n_kept n_isKept n_seenStation n_seenOther n_seenWide n_seenWas n_sines n_at n_column n_gram n_right n_work q_v_thrown v_textSize v_place v_stations v_readStations v_doings v_seen v_seed q_v_wide q_v_up q_v_low r_page r_sines q_r_column q_r_gram q_r_right q_r_work) → va_S A s.heap H locs → W p l e rm_X6_ask s m args below meth c H locs 0 0 Q (F0 m pc ls [.int v])) (H : Heap) (locs : List Loc) (ls : Array Slot) (hl : lv_has ls 2 [(0, .ref n_t), (1, .int x1)]) (hP : va_P (dC, dI) vwCl (wd_88cc5a k n_t n_text n_readPage n_page n_trial n_book n_kept n_isKept n_seenStation n_seenOther n_seenWide n_seenWas n_sines n_at n_column n_gram n_right n_work v_thrown v_textSize v_place v_stations v_readStations v_doings v_seen v_seed v_wide v_up v_low r_page r_sines r_column r_gram r_right r_work) H) (hD : va_D A (wd_88cc5a k n_t n_text n_readPage n_page n_trial n_book n_kept n_isKept n_seenStation n_seenOther n_seenWide n_seenWas n_sines n_at n_column n_gram n_right n_work v_thrown v_textSize v_place v_stations v_readStations v_doings v_seen v_seed v_wide v_up v_low r_page r_sines r_column r_gram r_right r_work)) (hS : va_S A s.heap H locs) (hm : f_X6_ask F x1 v_thrown v_wide v_up v_low r_page r_sines r_column r_gram r_right r_work = some (o_r, o_v_thrown, o_v_wide, o_v_up, o_v_low, o_r_column, o_r_gram, o_r_right, o_r_work)) : W p l e rm_X6_ask s m args below meth c H locs 0 0 Q (F0 m 0 ls []) := by
  have hinX6 : ∀ w ∈ u_ws RX6 TX6 28, w ∈ wsX6_ask := by decide +kernel
  have k0 := hts (.fieldLink RX6 67 "CaveLegsModel" "thrown" "I") (by decide +kernel)
  have k1 := hts (.fieldLink RX6 20 "CaveLegsModel" "page" "[I") (by decide +kernel)
  unfold f_X6_ask at hm
  refine lv_aload_n hx hb dX6_ask_0 rfl (lv_at hl 0 rfl) ?_
  refine lv_iconst (v := (0 : Int32)) hx hb dX6_ask_1 (by decide) ?_
  refine va_put (D := (dC, dI)) (ci := 6) (v := .int (0 : Int32)) (ty := .int) (C := RX6) (T := TX6) (N := 28) hx hb hts hinX6 tyX6 tyX6_ok nmX6 hown hG.1 hP hD hS 0 rfl rfl 0 (by decide) k0 (fun _ h9 => h9) rfl (by decide +kernel) rfl rfl (Nat.le_of_ble_eq_true rfl) dX6_ask_2 (fun H locs hP hD hS => ?_)
  replace hP : va_P (dC, dI) vwCl (wd_88cc5a k n_t n_text n_readPage n_page n_trial n_book n_kept n_isKept n_seenStation n_seenOther n_seenWide n_seenWas n_sines n_at n_column n_gram n_right n_work (0 : Int32) v_textSize v_place v_stations v_readStations v_doings v_seen v_seed v_wide v_up v_low r_page r_sines r_column r_gram r_right r_work) H := hP
  replace hD : va_D A (wd_88cc5a k n_t n_text n_readPage n_page n_trial n_book n_kept n_isKept n_seenStation n_seenOther n_seenWide n_seenWas n_sines n_at n_column n_gram n_right n_work (0 : Int32) v_textSize v_place v_stations v_readStations v_doings v_seen v_seed v_wide v_up v_low r_page r_sines r_column r_gram r_right r_work) := hD
  refine lv_iload_n hx hb dX6_ask_5 rfl (lv_at hl 1 rfl) ?_
  by_cases c1 : x1 = (0 : Int32)
  · replace hm := ifp c1 hm
    refine lv_tableIn (off := 30) (tgt := 36) hx hb dX6_ask_6 (by rw [c1]; decide) (by rw [c1]; decide) (by rw [c1]; rfl) (by decide) ?_
    refine lv_aload_n hx hb dX6_ask_36 rfl (lv_at hl 0 rfl) ?_
    refine lv_aload_n hx hb dX6_ask_37 rfl (lv_at hl 0 rfl) ?_
    refine va_get (D := (dC, dI)) (ci := 6) (v := .ref n_page) (C := RX6) (T := TX6) (N := 28) hx hb hts hinX6 hown hG.1 hP 0 rfl rfl 7 (by decide) k1 (fun _ h9 => h9) rfl dX6_ask_38 ?_
    refine lv_aload_n hx hb dX6_ask_41 rfl (lv_at hl 0 rfl) ?_
    refine va_get (D := (dC, dI)) (ci := 6) (v := .ref n_page) (C := RX6) (T := TX6) (N := 28) hx hb hts hinX6 hown hG.1 hP 0 rfl rfl 7 (by decide) k1 (fun _ h9 => h9) rfl dX6_ask_42 ?_
    obtain ⟨r2, e3, hm⟩ := bnd1_some hm
    refine g_calli (w2 := (wd_88cc5a k n_t n_text n_readPage n_page n_trial n_book n_kept n_isKept n_seenStation n_seenOther n_seenWide n_seenWas n_sines n_at n_column n_gram n_right n_work (0 : Int32) v_textSize v_place v_stations v_readStations v_doings v_seen v_seed v_wide v_up v_low r_page r_sines r_column r_gram r_right r_work)) (va_runS (As := [.ref n_page]) (rest := [.ref n_page, .ref n_t]) ⟨hx, hb, hml, hown, hts⟩ (m_X6_all l dC dI k H.size n_page r_page  e3) (va_cwS 1 hts gX6_ask_X6_all rfl rfl rfl (by decide +kernel) ⟨Nat.le_of_ble_eq_true rfl, Nat.le_of_ble_eq_true rfl⟩) (g_preS hG hP hD hS hA [1] rfl (by decide)) rfl rfl hl.1 rfl (lv_room (Nat.le_of_ble_eq_true rfl)) dX6_ask_45 ⟨Nat.le_of_ble_eq_true rfl, Nat.le_of_ble_eq_true rfl⟩) hP hD hS hA [1] [0, 2, 3, 4, 5, 6] [0, 6, 1, 2, 3, 4, 5] rfl rfl (by decide) (by decide) rfl (by decide) (fun H locs hP hD hS => ?_)
    obtain ⟨r4, e5, hm⟩ := bnd1_some hm
    refine g_calli (w2 := (wd_88cc5a k n_t n_text n_readPage n_page n_trial n_book n_kept n_isKept n_seenStation n_seenOther n_seenWide n_seenWas n_sines n_at n_column n_gram n_right n_work (0 : Int32) v_textSize v_place v_stations v_readStations v_doings v_seen v_seed v_wide v_up v_low r_page r_sines r_column r_gram r_right r_work)) (va_runV (As := [.ref n_page, .int r2]) (rest := []) ⟨hx, hb, hml, hown, hts⟩ (m_X6_tiedBy l dC dI k F H.size n_t n_page n_text n_readPage n_page n_trial n_book n_kept n_isKept n_seenStation n_seenOther n_seenWide n_seenWas n_sines n_at n_column n_gram n_right n_work (0 : Int32) v_textSize v_place v_stations v_readStations v_doings v_seen v_seed v_wide v_up v_low r_page r2 e5) (cwV 2 hts gX6_ask_X6_tiedBy rfl rfl rfl (by decide +kernel) ⟨Nat.le_of_ble_eq_true rfl, Nat.le_of_ble_eq_true rfl⟩) (g_preV hG hP hD hS hA [0, 1] rfl (by decide) (ci := 6) (q0 := 0) rfl rfl) rfl rfl hl.1 rfl (lv_room (Nat.le_of_ble_eq_true rfl)) dX6_ask_48 ⟨Nat.le_of_ble_eq_true rfl, Nat.le_of_ble_eq_true rfl⟩) hP hD hS hA [0, 1] [2, 3, 4, 5, 6] [5, 6, 0, 1, 2, 3, 4] rfl rfl (by decide) (by decide) rfl (by decide) (fun H locs hP hD hS => ?_)
    exact RET _ _ _ _ _ _ _ _ _ _ _ _ _ dX6_ask_51 hm hP hD hS
  · replace hm := ifn c1 hm
    by_cases c6 : x1 = (1 : Int32)
    · replace hm := ifp c6 hm
      refine lv_tableIn (off := 46) (tgt := 52) hx hb dX6_ask_6 (by rw [c6]; decide) (by rw [c6]; decide) (by rw [c6]; rfl) (by decide) ?_
      refine lv_aload_n hx hb dX6_ask_52 rfl (lv_at hl 0 rfl) ?_
      refine lv_aload_n hx hb dX6_ask_53 rfl (lv_at hl 0 rfl) ?_
      refine va_get (D := (dC, dI)) (ci := 6) (v := .ref n_page) (C := RX6) (T := TX6) (N := 28) hx hb hts hinX6 hown hG.1 hP 0 rfl rfl 7 (by decide) k1 (fun _ h9 => h9) rfl dX6_ask_54 ?_
      obtain ⟨r7, e8, hm⟩ := bnd1_some hm
      refine g_calli (w2 := (wd_88cc5a k n_t n_text n_readPage n_page n_trial n_book n_kept n_isKept n_seenStation n_seenOther n_seenWide n_seenWas n_sines n_at n_column n_gram n_right n_work (0 : Int32) v_textSize v_place v_stations v_readStations v_doings v_seen v_seed v_wide v_up v_low r_page r_sines r_column r_gram r_right r_work)) (va_runV (As := [.ref n_page]) (rest := []) ⟨hx, hb, hml, hown, hts⟩ (m_X6_loops l dC dI k F H.size n_t n_page n_text n_readPage n_page n_trial n_book n_kept n_isKept n_seenStation n_seenOther n_seenWide n_seenWas n_sines n_at n_column n_gram n_right n_work (0 : Int32) v_textSize v_place v_stations v_readStations v_doings v_seen v_seed v_wide v_up v_low r_page  e8) (cwV 1 hts gX6_ask_X6_loops rfl rfl rfl (by decide +kernel) ⟨Nat.le_of_ble_eq_true rfl, Nat.le_of_ble_eq_true rfl⟩) (g_preV hG hP hD hS hA [0, 1] rfl (by decide) (ci := 6) (q0 := 0) rfl rfl) rfl rfl hl.1 rfl (lv_room (Nat.le_of_ble_eq_true rfl)) dX6_ask_57 ⟨Nat.le_of_ble_eq_true rfl, Nat.le_of_ble_eq_true rfl⟩) hP hD hS hA [0, 1] [2, 3, 4, 5, 6] [5, 6, 0, 1, 2, 3, 4] rfl rfl (by decide) (by decide) rfl (by decide) (fun H locs hP hD hS => ?_)
      exact RET _ _ _ _ _ _ _ _ _ _ _ _ _ dX6_ask_60 hm hP hD hS
    · replace hm := ifn c6 hm
      by_cases c9 : x1 = (2 : Int32)
      · replace hm := ifp c9 hm
        refine lv_tableIn (off := 55) (tgt := 61) hx hb dX6_ask_6 (by rw [c9]; decide) (by rw [c9]; decide) (by rw [c9]; rfl) (by decide) ?_
        refine lv_aload_n hx hb dX6_ask_61 rfl (lv_at hl 0 rfl) ?_
        obtain ⟨r10, w11, w12, w13, w14, w15, w16, w17, e18, hm⟩ := bnd8_some hm
        refine g_calli (w2 := (wd_88cc5a k n_t n_text n_readPage n_page n_trial n_book n_kept n_isKept n_seenStation n_seenOther n_seenWide n_seenWas n_sines n_at n_column n_gram n_right n_work (0 : Int32) v_textSize v_place v_stations v_readStations v_doings v_seen v_seed w11 w12 w13 r_page r_sines w14 w15 w16 w17)) (va_runV (As := []) (rest := []) ⟨hx, hb, hml, hown, hts⟩ (m_X6_blunder l dC dI k F H.size n_t n_text n_readPage n_page n_trial n_book n_kept n_isKept n_seenStation n_seenOther n_seenWide n_seenWas n_sines n_at n_column n_gram n_right n_work (0 : Int32) v_textSize v_place v_stations v_readStations v_doings v_seen v_seed v_wide v_up v_low r_page r_sines r_column r_gram r_right r_work  e18) (cwV 0 hts gX6_ask_X6_blunder rfl rfl rfl (by decide +kernel) ⟨Nat.le_of_ble_eq_true rfl, Nat.le_of_ble_eq_true rfl⟩) (g_preV hG hP hD hS hA [0, 1, 2, 3, 4, 5, 6] rfl (by decide) (ci := 6) (q0 := 0) rfl rfl) rfl rfl hl.1 rfl (lv_room (Nat.le_of_ble_eq_true rfl)) dX6_ask_62 ⟨Nat.le_of_ble_eq_true rfl, Nat.le_of_ble_eq_true rfl⟩) hP hD hS hA [0, 1, 2, 3, 4, 5, 6] [] [0, 1, 2, 3, 4, 5, 6] rfl rfl (by decide) (by decide) rfl (by decide) (fun H locs hP hD hS => ?_)
        exact RET _ _ _ _ _ _ _ _ _ _ _ _ _ dX6_ask_65 hm hP hD hS
      · replace hm := ifn c9 hm
        by_cases c19 : x1 = (3 : Int32)
        · replace hm := ifp c19 hm
          refine lv_tableIn (off := 60) (tgt := 66) hx hb dX6_ask_6 (by rw [c19]; decide) (by rw [c19]; decide) (by rw [c19]; rfl) (by decide) ?_
          refine lv_aload_n hx hb dX6_ask_66 rfl (lv_at hl 0 rfl) ?_
          obtain ⟨r20, w21, w22, w23, w24, w25, w26, w27, e28, hm⟩ := bnd8_some hm
          refine g_calli (w2 := (wd_88cc5a k n_t n_text n_readPage n_page n_trial n_book n_kept n_isKept n_seenStation n_seenOther n_seenWide n_seenWas n_sines n_at n_column n_gram n_right n_work (0 : Int32) v_textSize v_place v_stations v_readStations v_doings v_seen v_seed w21 w22 w23 r_page r_sines w24 w25 w26 w27)) (va_runV (As := []) (rest := []) ⟨hx, hb, hml, hown, hts⟩ (m_X6_clearOnes l dC dI k F H.size n_t n_text n_readPage n_page n_trial n_book n_kept n_isKept n_seenStation n_seenOther n_seenWide n_seenWas n_sines n_at n_column n_gram n_right n_work (0 : Int32) v_textSize v_place v_stations v_readStations v_doings v_seen v_seed v_wide v_up v_low r_page r_sines r_column r_gram r_right r_work  e28) (cwV 0 hts gX6_ask_X6_clearOnes rfl rfl rfl (by decide +kernel) ⟨Nat.le_of_ble_eq_true rfl, Nat.le_of_ble_eq_true rfl⟩) (g_preV hG hP hD hS hA [0, 1, 2, 3, 4, 5, 6] rfl (by decide) (ci := 6) (q0 := 0) rfl rfl) rfl rfl hl.1 rfl (lv_room (Nat.le_of_ble_eq_true rfl)) dX6_ask_67 ⟨Nat.le_of_ble_eq_true rfl, Nat.le_of_ble_eq_true rfl⟩) hP hD hS hA [0, 1, 2, 3, 4, 5, 6] [] [0, 1, 2, 3, 4, 5, 6] rfl rfl (by decide) (by decide) rfl (by decide) (fun H locs hP hD hS => ?_)
          exact RET _ _ _ _ _ _ _ _ _ _ _ _ _ dX6_ask_70 hm hP hD hS
        · replace hm := ifn c19 hm
          refine lv_tableOut (tgt := 71) hx hb dX6_ask_6 (by have qc1 := i32_ne c1 (z := 0) (by decide); have qc6 := i32_ne c6 (z := 1) (by decide); have qc9 := i32_ne c9 (z := 2) (by decide); have qc19 := i32_ne c19 (z := 3) (by decide); omega) (by decide) ?_
          refine lv_bipush (v := (-2 : Int32)) hx hb dX6_ask_71 (by decide) ?_
          exact RET _ _ _ _ _ _ _ _ _ _ _ _ _ dX6_ask_73 hm hP hD hS
set_option maxRecDepth 100000 in
theorem m_X6_ask (l : Launch) (dC : Nat → ClassId) (dI : Nat → Nat → Nat) (k : Nat → ClassId) (F : Nat) (sz : Nat) (n_t n_text n_readPage n_page n_trial n_book n_kept n_isKept n_seenStation n_seenOther n_seenWide n_seenWas n_sines n_at n_column n_gram n_right n_work : Nat) (v_thrown : Int32) (v_textSize : Int32) (v_place : Int32) (v_stations : Int32) (v_readStations : Int32) (v_doings : Int32) (v_seen : Int32) (v_seed : Int64) (v_wide : Int32) (v_up : Int64) (v_low : Int64) (r_page : Nat → Int32) (r_sines : Nat → Int32) (r_column : Nat → Int32) (r_gram : Nat → Int64) (r_right : Nat → Int64) (r_work : Nat → Int64) (x1 : Int32) {o_r : Int32} {o_v_thrown : (Int32)} {o_v_wide : (Int32)} {o_v_up : (Int64)} {o_v_low : (Int64)} {o_r_column : (Nat → Int32)} {o_r_gram : (Nat → Int64)} {o_r_right : (Nat → Int64)} {o_r_work : (Nat → Int64)} (hm : f_X6_ask F x1 v_thrown v_wide v_up v_low r_page r_sines r_column r_gram r_right r_work = some (o_r, o_v_thrown, o_v_wide, o_v_up, o_v_low, o_r_column, o_r_gram, o_r_right, o_r_work)) : Met l yX6_ask wsX6_ask rm_X6_ask (gPre dC dI k [.ref n_t, .int x1] sz (wd_88cc5a k n_t n_text n_readPage n_page n_trial n_book n_kept n_isKept n_seenStation n_seenOther n_seenWide n_seenWas n_sines n_at n_column n_gram n_right n_work v_thrown v_textSize v_place v_stations v_readStations v_doings v_seen v_seed v_wide v_up v_low r_page r_sines r_column r_gram r_right r_work)) (gQI dC dI (va_A (wd_88cc5a k n_t n_text n_readPage n_page n_trial n_book n_kept n_isKept n_seenStation n_seenOther n_seenWide n_seenWas n_sines n_at n_column n_gram n_right n_work v_thrown v_textSize v_place v_stations v_readStations v_doings v_seen v_seed v_wide v_up v_low r_page r_sines r_column r_gram r_right r_work) sz) o_r (wd_88cc5a k n_t n_text n_readPage n_page n_trial n_book n_kept n_isKept n_seenStation n_seenOther n_seenWide n_seenWas n_sines n_at n_column n_gram n_right n_work o_v_thrown v_textSize v_place v_stations v_readStations v_doings v_seen v_seed o_v_wide o_v_up o_v_low r_page r_sines o_r_column o_r_gram o_r_right o_r_work)) 0 0 (va_A (wd_88cc5a k n_t n_text n_readPage n_page n_trial n_book n_kept n_isKept n_seenStation n_seenOther n_seenWide n_seenWas n_sines n_at n_column n_gram n_right n_work v_thrown v_textSize v_place v_stations v_readStations v_doings v_seen v_seed v_wide v_up v_low r_page r_sines r_column r_gram r_right r_work) sz) := by
  refine g_entry (cc := cX6_ask) (maxL := 2) (ret := (some .int)) (lv := [(0, .ref n_t), (1, .int x1)]) (by decide +kernel) rfl (Nat.le_of_ble_eq_true rfl) rfl (fun p e s m below meth c ls hx hb hr hml hts hown hlk hnm hsz hG hA hP hD hS hl => ?_)
  exact k_X6_ask hx hb hml hts hown hG hA F n_t n_text n_readPage n_page n_trial n_book n_kept n_isKept n_seenStation n_seenOther n_seenWide n_seenWas n_sines n_at n_column n_gram n_right n_work v_thrown v_textSize v_place v_stations v_readStations v_doings v_seen v_seed v_wide v_up v_low r_page r_sines r_column r_gram r_right r_work x1 o_r o_v_thrown o_v_wide o_v_up o_v_low o_r_column o_r_gram o_r_right o_r_work (fun pc H locs ls v q_v_thrown q_v_wide q_v_up q_v_low q_r_column q_r_gram q_r_right q_r_work hd ho hP hD hS => by cases ho; exact g_ireti hx hb hr hlk hP hD hS hd) s.heap [] ls hl hP hD hS hm
end
section
set_option maxHeartbeats 4000000 in
set_option maxRecDepth 100000 in
theorem k_X6_openOnes {p : Program} {l : Launch} {e : Env} {s : State} {m : MethodId} {args : Array Value} {below : List Frame} {meth : Method} {c : Code} {A : Nat → Prop} {Q : State → Prop} {dC : Nat → ClassId} {dI : Nat → Nat → Nat} {k : Nat → ClassId} (hx : p.tables.exec = Jvm.exec) (hb : c.code = cX6_openOnes) (hml : c.maxLocals = 1) (hts : ∀ w ∈ wsX6_openOnes, w.before args s = true) (hown : s.vm.findClass RX6 = some m.cls) (hG : gK dC dI k A s) (hA : ∀ q : Nat, s.heap.size ≤ q → A q) (n_p0 : Nat) (r_p0 : Nat → Int32) (o_r : Int32) (RET : ∀ (pc : Nat) (H : Heap) (locs : List Loc) (ls : Array Slot) (v : Int32), decode cX6_openOnes pc = .ok (.ireturn, 1) → some v = some o_r → va_P (dC, dI) vwCl (wd_906db5 k n_p0 r_p0) H → va_D A (wd_906db5 k n_p0 r_p0) → va_S A s.heap H locs → W p l e rm_X6_openOnes s m args below meth c H locs 0 0 Q (F0 m pc ls [.int v])) (H : Heap) (locs : List Loc) (ls : Array Slot) (hl : lv_has ls 1 [(0, .ref n_p0)]) (hP : va_P (dC, dI) vwCl (wd_906db5 k n_p0 r_p0) H) (hD : va_D A (wd_906db5 k n_p0 r_p0)) (hS : va_S A s.heap H locs) (hm : f_X6_openOnes r_p0 = some o_r) : W p l e rm_X6_openOnes s m args below meth c H locs 0 0 Q (F0 m 0 ls []) := by
  unfold f_X6_openOnes at hm
  refine lv_aload_n hx hb dX6_openOnes_0 rfl (lv_at hl 0 rfl) ?_
  obtain ⟨r1, e2, hm⟩ := bnd1_some hm
  refine g_calli (w2 := (wd_906db5 k n_p0 r_p0)) (va_runS (As := [.ref n_p0]) (rest := []) ⟨hx, hb, hml, hown, hts⟩ (m_X6_all l dC dI k H.size n_p0 r_p0  e2) (va_cwS 1 hts gX6_openOnes_X6_all rfl rfl rfl (by decide +kernel) ⟨Nat.le_of_ble_eq_true rfl, Nat.le_of_ble_eq_true rfl⟩) (g_preS hG hP hD hS hA [0] rfl (by decide)) rfl rfl hl.1 rfl (lv_room (Nat.le_of_ble_eq_true rfl)) dX6_openOnes_1 ⟨Nat.le_of_ble_eq_true rfl, Nat.le_of_ble_eq_true rfl⟩) hP hD hS hA [0] [] [0] rfl rfl (by decide) (by decide) rfl (by decide) (fun H locs hP hD hS => ?_)
  refine lv_aload_n hx hb dX6_openOnes_4 rfl (lv_at hl 0 rfl) ?_
  refine lv_iconst (v := (1 : Int32)) hx hb dX6_openOnes_5 (by decide) ?_
  obtain ⟨hi3, hm⟩ := chk_some hm
  refine va_iald hx hb hG.1 hP 0 0 rfl rfl hi3 dX6_openOnes_6 ?_
  refine lv_iconst (v := (-1 : Int32)) hx hb dX6_openOnes_7 (by decide) ?_
  refine lv_ixor hx hb dX6_openOnes_8 ?_
  refine lv_iand hx hb dX6_openOnes_9 ?_
  exact RET _ _ _ _ _ dX6_openOnes_10 hm hP hD hS
set_option maxRecDepth 100000 in
theorem m_X6_openOnes (l : Launch) (dC : Nat → ClassId) (dI : Nat → Nat → Nat) (k : Nat → ClassId) (sz : Nat) (n_p0 : Nat) (r_p0 : Nat → Int32) {o_r : Int32} (hm : f_X6_openOnes r_p0 = some o_r) : Met l yX6_openOnes wsX6_openOnes rm_X6_openOnes (gPre dC dI k [.ref n_p0] sz (wd_906db5 k n_p0 r_p0)) (gQI dC dI (va_A (wd_906db5 k n_p0 r_p0) sz) o_r (wd_906db5 k n_p0 r_p0)) 0 0 (va_A (wd_906db5 k n_p0 r_p0) sz) := by
  refine g_entry (cc := cX6_openOnes) (maxL := 1) (ret := (some .int)) (lv := [(0, .ref n_p0)]) (by decide +kernel) rfl (Nat.le_of_ble_eq_true rfl) rfl (fun p e s m below meth c ls hx hb hr hml hts hown hlk hnm hsz hG hA hP hD hS hl => ?_)
  exact k_X6_openOnes hx hb hml hts hown hG hA n_p0 r_p0 o_r (fun pc H locs ls v hd ho hP hD hS => by cases ho; exact g_ireti hx hb hr hlk hP hD hS hd) s.heap [] ls hl hP hD hS hm
end
section
set_option maxHeartbeats 4000000 in
set_option maxRecDepth 100000 in
theorem k_X6_from {p : Program} {l : Launch} {e : Env} {s : State} {m : MethodId} {args : Array Value} {below : List Frame} {meth : Method} {c : Code} {A : Nat → Prop} {Q : State → Prop} {dC : Nat → ClassId} {dI : Nat → Nat → Nat} {k : Nat → ClassId} (hx : p.tables.exec = Jvm.exec) (hb : c.code = cX6_from) (hml : c.maxLocals = 9) (hts : ∀ w ∈ wsX6_from, w.before args s = true) (hown : s.vm.findClass RX6 = some m.cls) (hG : gK dC dI k A s) (hA : ∀ q : Nat, s.heap.size ≤ q → A q) (F : Nat) (n_t n_p1 n_text n_readPage n_page n_trial n_book n_kept n_isKept n_seenStation n_seenOther n_seenWide n_seenWas n_sines n_at n_column n_gram n_right n_work : Nat) (v_thrown : Int32) (v_textSize : Int32) (v_place : Int32) (v_stations : Int32) (v_readStations : Int32) (v_doings : Int32) (v_seen : Int32) (v_seed : Int64) (v_wide : Int32) (v_up : Int64) (v_low : Int64) (r_p1 : Nat → Int32) (x2 : Int32) (x3 : Int32) (x4 : Int32) (o_r : Int32) (RET : ∀ (pc : Nat) (H : Heap) (locs : List Loc) (ls : Array Slot) (v : Int32), decode cX6_from pc = .ok (.ireturn, 1) → some v = some o_r → va_P (dC, dI) vwCl (wd_b39fcd k n_t n_p1 n_text n_readPage n_page n_trial n_book n_kept n_isKept n_seenStation n_seenOther n_seenWide n_seenWas n_sines n_at n_column n_gram n_right n_work v_thrown v_textSize v_place v_stations v_readStations v_doings v_seen v_seed v_wide v_up v_low r_p1) H → va_D A (wd_b39fcd k n_t n_p1 n_text n_readPage n_page n_trial n_book n_kept n_isKept n_seenStation n_seenOther n_seenWide n_seenWas n_sines n_at n_column n_gram n_right n_work v_thrown v_textSize v_place v_stations v_readStations v_doings v_seen v_seed v_wide v_up v_low r_p1) → va_S A s.heap H locs → W p l e rm_X6_from s m args below meth c H locs 0 0 Q (F0 m pc ls [.int v])) (H : Heap) (locs : List Loc) (ls : Array Slot) (hl : lv_has ls 9 [(0, .ref n_t), (1, .ref n_p1), (2, .int x2), (3, .int x3), (4, .int x4)]) (hP : va_P (dC, dI) vwCl (wd_b39fcd k n_t n_p1 n_text n_readPage n_page n_trial n_book n_kept n_isKept n_seenStation n_seenOther n_seenWide n_seenWas n_sines n_at n_column n_gram n_right n_work v_thrown v_textSize v_place v_stations v_readStations v_doings v_seen v_seed v_wide v_up v_low r_p1) H) (hD : va_D A (wd_b39fcd k n_t n_p1 n_text n_readPage n_page n_trial n_book n_kept n_isKept n_seenStation n_seenOther n_seenWide n_seenWas n_sines n_at n_column n_gram n_right n_work v_thrown v_textSize v_place v_stations v_readStations v_doings v_seen v_seed v_wide v_up v_low r_p1)) (hS : va_S A s.heap H locs) (hm : f_X6_from F x2 x3 x4 r_p1 = some o_r) : W p l e rm_X6_from s m args below meth c H locs 0 0 Q (F0 m 0 ls []) := by
  have L_8 : ∀ (n8 : Nat) (x2 : Int32) (x4 : Int32) (x5 : Int32) (x6 : Int32) (H : Heap) (locs : List Loc) (ls : Array Slot), lv_has ls 9 [(1, .ref n_p1), (2, .int x2), (4, .int x4), (5, .int x5), (6, .int x6)] → va_P (dC, dI) vwCl (wd_b39fcd k n_t n_p1 n_text n_readPage n_page n_trial n_book n_kept n_isKept n_seenStation n_seenOther n_seenWide n_seenWas n_sines n_at n_column n_gram n_right n_work v_thrown v_textSize v_place v_stations v_readStations v_doings v_seen v_seed v_wide v_up v_low r_p1) H → va_D A (wd_b39fcd k n_t n_p1 n_text n_readPage n_page n_trial n_book n_kept n_isKept n_seenStation n_seenOther n_seenWide n_seenWas n_sines n_at n_column n_gram n_right n_work v_thrown v_textSize v_place v_stations v_readStations v_doings v_seen v_seed v_wide v_up v_low r_p1) → va_S A s.heap H locs → f_X6_from_L8 F r_p1 n8 x2 x4 x5 x6 = some o_r → W p l e rm_X6_from s m args below meth c H locs 0 0 Q (F0 m 8 ls []) := by
    intro n8
    induction n8 with
    | zero =>
      intro x2 x4 x5 x6 H locs ls hl hP hD hS hm
      exact non_some hm
    | succ n8 ih8 =>
      have L_18 : ∀ (n18 : Nat) (x2 : Int32) (x4 : Int32) (x5 : Int32) (x6 : Int32) (x7 : Int32) (H : Heap) (locs : List Loc) (ls : Array Slot), lv_has ls 9 [(1, .ref n_p1), (2, .int x2), (4, .int x4), (5, .int x5), (6, .int x6), (7, .int x7)] → va_P (dC, dI) vwCl (wd_b39fcd k n_t n_p1 n_text n_readPage n_page n_trial n_book n_kept n_isKept n_seenStation n_seenOther n_seenWide n_seenWas n_sines n_at n_column n_gram n_right n_work v_thrown v_textSize v_place v_stations v_readStations v_doings v_seen v_seed v_wide v_up v_low r_p1) H → va_D A (wd_b39fcd k n_t n_p1 n_text n_readPage n_page n_trial n_book n_kept n_isKept n_seenStation n_seenOther n_seenWide n_seenWas n_sines n_at n_column n_gram n_right n_work v_thrown v_textSize v_place v_stations v_readStations v_doings v_seen v_seed v_wide v_up v_low r_p1) → va_S A s.heap H locs → f_X6_from_L18 F r_p1 (f_X6_from_L8 F r_p1 n8) n18 x2 x4 x5 x6 x7 = some o_r → W p l e rm_X6_from s m args below meth c H locs 0 0 Q (F0 m 18 ls []) := by
        intro n18
        induction n18 with
        | zero =>
          intro x2 x4 x5 x6 x7 H locs ls hl hP hD hS hm
          exact non_some hm
        | succ n18 ih18 =>
          have J_114 : ∀ (x2 : Int32) (x4 : Int32) (x6 : Int32) (x7 : Int32) (s0 : Int32) (s1 : Int32) (H : Heap) (locs : List Loc) (ls : Array Slot), lv_has ls 9 [(1, .ref n_p1), (2, .int x2), (4, .int x4), (6, .int x6), (7, .int x7)] → va_P (dC, dI) vwCl (wd_b39fcd k n_t n_p1 n_text n_readPage n_page n_trial n_book n_kept n_isKept n_seenStation n_seenOther n_seenWide n_seenWas n_sines n_at n_column n_gram n_right n_work v_thrown v_textSize v_place v_stations v_readStations v_doings v_seen v_seed v_wide v_up v_low r_p1) H → va_D A (wd_b39fcd k n_t n_p1 n_text n_readPage n_page n_trial n_book n_kept n_isKept n_seenStation n_seenOther n_seenWide n_seenWas n_sines n_at n_column n_gram n_right n_work v_thrown v_textSize v_place v_stations v_readStations v_doings v_seen v_seed v_wide v_up v_low r_p1) → va_S A s.heap H locs → f_X6_from_J114 F r_p1 (f_X6_from_L8 F r_p1 n8) (f_X6_from_L18 F r_p1 (f_X6_from_L8 F r_p1 n8) n18) x2 x4 x6 x7 s0 s1 = some o_r → W p l e rm_X6_from s m args below meth c H locs 0 0 Q (F0 m 114 ls [.int s1, .int s0]) := by
            intro x2 x4 x6 x7 s0 s1 H locs ls hl hP hD hS hm
            unfold f_X6_from_J114 at hm
            refine lv_ior hx hb dX6_from_114 ?_
            refine lv_topi (fun t1 et1 => ?_)
            replace hm := (nmd_eq et1).trans hm
            refine lv_istore (lv' := [(5, .int t1), (1, .ref n_p1), (2, .int x2), (4, .int x4), (6, .int x6), (7, .int x7)]) hx hb dX6_from_115 hl (by decide) rfl (fun ls hl => ?_)
            obtain ⟨t2, et2⟩ : ∃ y : Int32, y = x7 + (1 : Int32) := ⟨_, rfl⟩
            replace hm := (nmd_eq et2).trans hm
            refine lv_iinc (v := t2) (lv' := [(7, .int t2), (5, .int t1), (1, .ref n_p1), (2, .int x2), (4, .int x4), (6, .int x6)]) hx hb dX6_from_117 hl (k := 5) rfl (by rw [et2]; rfl) (by decide) rfl (fun ls hl => ?_)
            refine lv_goto (tgt := 18) hx hb dX6_from_120 (by decide) ?_
            exact ih18 _ _ _ _ _ _ _ _ (lv_sub hl [2, 3, 4, 1, 5, 0] rfl) hP hD hS hm
          have J_113 : ∀ (x2 : Int32) (x4 : Int32) (x6 : Int32) (x7 : Int32) (s0 : Int32) (H : Heap) (locs : List Loc) (ls : Array Slot), lv_has ls 9 [(1, .ref n_p1), (2, .int x2), (4, .int x4), (6, .int x6), (7, .int x7)] → va_P (dC, dI) vwCl (wd_b39fcd k n_t n_p1 n_text n_readPage n_page n_trial n_book n_kept n_isKept n_seenStation n_seenOther n_seenWide n_seenWas n_sines n_at n_column n_gram n_right n_work v_thrown v_textSize v_place v_stations v_readStations v_doings v_seen v_seed v_wide v_up v_low r_p1) H → va_D A (wd_b39fcd k n_t n_p1 n_text n_readPage n_page n_trial n_book n_kept n_isKept n_seenStation n_seenOther n_seenWide n_seenWas n_sines n_at n_column n_gram n_right n_work v_thrown v_textSize v_place v_stations v_readStations v_doings v_seen v_seed v_wide v_up v_low r_p1) → va_S A s.heap H locs → f_X6_from_J113 F r_p1 (f_X6_from_L8 F r_p1 n8) (f_X6_from_L18 F r_p1 (f_X6_from_L8 F r_p1 n8) n18) x2 x4 x6 x7 s0 = some o_r → W p l e rm_X6_from s m args below meth c H locs 0 0 Q (F0 m 113 ls [.int s0]) := by
            intro x2 x4 x6 x7 s0 H locs ls hl hP hD hS hm
            unfold f_X6_from_J113 at hm
            refine lv_iconst (v := (0 : Int32)) hx hb dX6_from_113 (by decide) ?_
            exact J_114 _ _ _ _ _ _ _ _ _ (lv_sub hl [0, 1, 2, 3, 4] rfl) hP hD hS hm
          have J_61 : ∀ (x2 : Int32) (x4 : Int32) (x5 : Int32) (x6 : Int32) (x7 : Int32) (s0 : Int32) (H : Heap) (locs : List Loc) (ls : Array Slot), lv_has ls 9 [(1, .ref n_p1), (2, .int x2), (4, .int x4), (5, .int x5), (6, .int x6), (7, .int x7)] → va_P (dC, dI) vwCl (wd_b39fcd k n_t n_p1 n_text n_readPage n_page n_trial n_book n_kept n_isKept n_seenStation n_seenOther n_seenWide n_seenWas n_sines n_at n_column n_gram n_right n_work v_thrown v_textSize v_place v_stations v_readStations v_doings v_seen v_seed v_wide v_up v_low r_p1) H → va_D A (wd_b39fcd k n_t n_p1 n_text n_readPage n_page n_trial n_book n_kept n_isKept n_seenStation n_seenOther n_seenWide n_seenWas n_sines n_at n_column n_gram n_right n_work v_thrown v_textSize v_place v_stations v_readStations v_doings v_seen v_seed v_wide v_up v_low r_p1) → va_S A s.heap H locs → f_X6_from_J61 F r_p1 (f_X6_from_L8 F r_p1 n8) (f_X6_from_L18 F r_p1 (f_X6_from_L8 F r_p1 n8) n18) x2 x4 x5 x6 x7 s0 = some o_r → W p l e rm_X6_from s m args below meth c H locs 0 0 Q (F0 m 61 ls [.int s0]) := by
            intro x2 x4 x5 x6 x7 s0 H locs ls hl hP hD hS hm
            unfold f_X6_from_J61 at hm
            refine lv_istore (lv' := [(8, .int s0), (1, .ref n_p1), (2, .int x2), (4, .int x4), (5, .int x5), (6, .int x6), (7, .int x7)]) hx hb dX6_from_61 hl (by decide) rfl (fun ls hl => ?_)
            refine lv_iload hx hb dX6_from_63 (lv_at hl 4 rfl) ?_
            refine lv_iload_n hx hb dX6_from_65 rfl (lv_at hl 2 rfl) ?_
            refine lv_iload hx hb dX6_from_66 (lv_at hl 6 rfl) ?_
            obtain ⟨r3, e4, hm⟩ := bnd1_some hm
            refine g_calli (w2 := (wd_b39fcd k n_t n_p1 n_text n_readPage n_page n_trial n_book n_kept n_isKept n_seenStation n_seenOther n_seenWide n_seenWas n_sines n_at n_column n_gram n_right n_work v_thrown v_textSize v_place v_stations v_readStations v_doings v_seen v_seed v_wide v_up v_low r_p1)) (va_runS (As := [.int x2, .int x7]) (rest := [.int x5]) ⟨hx, hb, hml, hown, hts⟩ (m_X6_has l dC dI k H.size  x2 x7 e4) (va_cwS 2 hts gX6_from_X6_has rfl rfl rfl (by decide +kernel) ⟨Nat.le_of_ble_eq_true rfl, Nat.le_of_ble_eq_true rfl⟩) (g_preS hG hP hD hS hA [] rfl (by decide)) rfl rfl hl.1 rfl (lv_room (Nat.le_of_ble_eq_true rfl)) dX6_from_68 ⟨Nat.le_of_ble_eq_true rfl, Nat.le_of_ble_eq_true rfl⟩) hP hD hS hA [] [0, 1] [0, 1] rfl rfl (by decide) (by decide) rfl (by decide) (fun H locs hP hD hS => ?_)
            refine lv_if_eq (tgt := 113) hx hb dX6_from_71 (by decide) (fun c5 => ?_) (fun c5 => ?_)
            · replace hm := ifp c5 hm
              exact J_113 _ _ _ _ _ _ _ _ (lv_sub hl [1, 2, 3, 5, 6] rfl) hP hD hS hm
            · replace hm := ifn c5 hm
              refine lv_aload_n hx hb dX6_from_74 rfl (lv_at hl 1 rfl) ?_
              refine lv_iload hx hb dX6_from_75 (lv_at hl 6 rfl) ?_
              refine lv_iconst (v := (3 : Int32)) hx hb dX6_from_77 (by decide) ?_
              obtain ⟨r6, e7, hm⟩ := bnd1_some hm
              refine g_calli (w2 := (wd_b39fcd k n_t n_p1 n_text n_readPage n_page n_trial n_book n_kept n_isKept n_seenStation n_seenOther n_seenWide n_seenWas n_sines n_at n_column n_gram n_right n_work v_thrown v_textSize v_place v_stations v_readStations v_doings v_seen v_seed v_wide v_up v_low r_p1)) (va_runS (As := [.ref n_p1, .int x7, .int (3 : Int32)]) (rest := [.int x5]) ⟨hx, hb, hml, hown, hts⟩ (m_X6_of l dC dI k H.size n_p1 r_p1 x7 (3 : Int32) e7) (va_cwS 3 hts gX6_from_X6_of rfl rfl rfl (by decide +kernel) ⟨Nat.le_of_ble_eq_true rfl, Nat.le_of_ble_eq_true rfl⟩) (g_preS hG hP hD hS hA [1] rfl (by decide)) rfl rfl hl.1 rfl (lv_room (Nat.le_of_ble_eq_true rfl)) dX6_from_78 ⟨Nat.le_of_ble_eq_true rfl, Nat.le_of_ble_eq_true rfl⟩) hP hD hS hA [1] [0] [0, 1] rfl rfl (by decide) (by decide) rfl (by decide) (fun H locs hP hD hS => ?_)
              refine lv_iload hx hb dX6_from_81 (lv_at hl 3 rfl) ?_
              refine lv_icmp_lt (tgt := 113) hx hb dX6_from_83 (by decide) (fun c8 => ?_) (fun c8 => ?_)
              · replace hm := ifp c8 hm
                exact J_113 _ _ _ _ _ _ _ _ (lv_sub hl [1, 2, 3, 5, 6] rfl) hP hD hS hm
              · replace hm := ifn c8 hm
                refine lv_iload hx hb dX6_from_86 (lv_at hl 0 rfl) ?_
                refine lv_if_eq (tgt := 113) hx hb dX6_from_88 (by decide) (fun c9 => ?_) (fun c9 => ?_)
                · replace hm := ifp c9 hm
                  exact J_113 _ _ _ _ _ _ _ _ (lv_sub hl [1, 2, 3, 5, 6] rfl) hP hD hS hm
                · replace hm := ifn c9 hm
                  refine lv_iconst (v := (1 : Int32)) hx hb dX6_from_91 (by decide) ?_
                  refine lv_aload_n hx hb dX6_from_92 rfl (lv_at hl 1 rfl) ?_
                  refine lv_iload hx hb dX6_from_93 (lv_at hl 6 rfl) ?_
                  refine lv_iconst (v := (4 : Int32)) hx hb dX6_from_95 (by decide) ?_
                  obtain ⟨r10, e11, hm⟩ := bnd1_some hm
                  refine g_calli (w2 := (wd_b39fcd k n_t n_p1 n_text n_readPage n_page n_trial n_book n_kept n_isKept n_seenStation n_seenOther n_seenWide n_seenWas n_sines n_at n_column n_gram n_right n_work v_thrown v_textSize v_place v_stations v_readStations v_doings v_seen v_seed v_wide v_up v_low r_p1)) (va_runS (As := [.ref n_p1, .int x7, .int (4 : Int32)]) (rest := [.int (1 : Int32), .int x5]) ⟨hx, hb, hml, hown, hts⟩ (m_X6_of l dC dI k H.size n_p1 r_p1 x7 (4 : Int32) e11) (va_cwS 3 hts gX6_from_X6_of rfl rfl rfl (by decide +kernel) ⟨Nat.le_of_ble_eq_true rfl, Nat.le_of_ble_eq_true rfl⟩) (g_preS hG hP hD hS hA [1] rfl (by decide)) rfl rfl hl.1 rfl (lv_room (Nat.le_of_ble_eq_true rfl)) dX6_from_96 ⟨Nat.le_of_ble_eq_true rfl, Nat.le_of_ble_eq_true rfl⟩) hP hD hS hA [1] [0] [0, 1] rfl rfl (by decide) (by decide) rfl (by decide) (fun H locs hP hD hS => ?_)
                  refine g_ishl hx hb dX6_from_99 ?_
                  refine lv_iconst (v := (1 : Int32)) hx hb dX6_from_100 (by decide) ?_
                  refine lv_aload_n hx hb dX6_from_101 rfl (lv_at hl 1 rfl) ?_
                  refine lv_iload hx hb dX6_from_102 (lv_at hl 6 rfl) ?_
                  refine lv_iconst (v := (5 : Int32)) hx hb dX6_from_104 (by decide) ?_
                  obtain ⟨r12, e13, hm⟩ := bnd1_some hm
                  refine g_calli (w2 := (wd_b39fcd k n_t n_p1 n_text n_readPage n_page n_trial n_book n_kept n_isKept n_seenStation n_seenOther n_seenWide n_seenWas n_sines n_at n_column n_gram n_right n_work v_thrown v_textSize v_place v_stations v_readStations v_doings v_seen v_seed v_wide v_up v_low r_p1)) (va_runS (As := [.ref n_p1, .int x7, .int (5 : Int32)]) (rest := [.int (1 : Int32), .int (shlI (1 : Int32) r10), .int x5]) ⟨hx, hb, hml, hown, hts⟩ (m_X6_of l dC dI k H.size n_p1 r_p1 x7 (5 : Int32) e13) (va_cwS 3 hts gX6_from_X6_of rfl rfl rfl (by decide +kernel) ⟨Nat.le_of_ble_eq_true rfl, Nat.le_of_ble_eq_true rfl⟩) (g_preS hG hP hD hS hA [1] rfl (by decide)) rfl rfl hl.1 rfl (lv_room (Nat.le_of_ble_eq_true rfl)) dX6_from_105 ⟨Nat.le_of_ble_eq_true rfl, Nat.le_of_ble_eq_true rfl⟩) hP hD hS hA [1] [0] [0, 1] rfl rfl (by decide) (by decide) rfl (by decide) (fun H locs hP hD hS => ?_)
                  refine g_ishl hx hb dX6_from_108 ?_
                  refine lv_ior hx hb dX6_from_109 ?_
                  refine lv_goto (tgt := 114) hx hb dX6_from_110 (by decide) ?_
                  exact J_114 _ _ _ _ _ _ _ _ _ (lv_sub hl [1, 2, 3, 5, 6] rfl) hP hD hS hm
          have J_56 : ∀ (x2 : Int32) (x4 : Int32) (x5 : Int32) (x6 : Int32) (x7 : Int32) (H : Heap) (locs : List Loc) (ls : Array Slot), lv_has ls 9 [(1, .ref n_p1), (2, .int x2), (4, .int x4), (5, .int x5), (6, .int x6), (7, .int x7)] → va_P (dC, dI) vwCl (wd_b39fcd k n_t n_p1 n_text n_readPage n_page n_trial n_book n_kept n_isKept n_seenStation n_seenOther n_seenWide n_seenWas n_sines n_at n_column n_gram n_right n_work v_thrown v_textSize v_place v_stations v_readStations v_doings v_seen v_seed v_wide v_up v_low r_p1) H → va_D A (wd_b39fcd k n_t n_p1 n_text n_readPage n_page n_trial n_book n_kept n_isKept n_seenStation n_seenOther n_seenWide n_seenWas n_sines n_at n_column n_gram n_right n_work v_thrown v_textSize v_place v_stations v_readStations v_doings v_seen v_seed v_wide v_up v_low r_p1) → va_S A s.heap H locs → f_X6_from_J56 F r_p1 (f_X6_from_L8 F r_p1 n8) (f_X6_from_L18 F r_p1 (f_X6_from_L8 F r_p1 n8) n18) x2 x4 x5 x6 x7 = some o_r → W p l e rm_X6_from s m args below meth c H locs 0 0 Q (F0 m 56 ls []) := by
            intro x2 x4 x5 x6 x7 H locs ls hl hP hD hS hm
            unfold f_X6_from_J56 at hm
            refine lv_iconst (v := (1 : Int32)) hx hb dX6_from_56 (by decide) ?_
            refine lv_goto (tgt := 61) hx hb dX6_from_57 (by decide) ?_
            exact J_61 _ _ _ _ _ _ _ _ _ (lv_sub hl [0, 1, 2, 3, 4, 5] rfl) hP hD hS hm
          intro x2 x4 x5 x6 x7 H locs ls hl hP hD hS hm
          replace hm : f_X6_from_B18 F r_p1 (f_X6_from_L8 F r_p1 n8) (f_X6_from_L18 F r_p1 (f_X6_from_L8 F r_p1 n8) n18) x2 x4 x5 x6 x7 = some o_r := hm
          unfold f_X6_from_B18 at hm
          refine lv_iload hx hb dX6_from_18 (lv_at hl 5 rfl) ?_
          refine lv_aload_n hx hb dX6_from_20 rfl (lv_at hl 0 rfl) ?_
          refine lv_iconst (v := (0 : Int32)) hx hb dX6_from_21 (by decide) ?_
          obtain ⟨hi14, hm⟩ := chk_some hm
          refine va_iald hx hb hG.1 hP 1 0 rfl rfl hi14 dX6_from_22 ?_
          refine lv_icmp_ge (tgt := 123) hx hb dX6_from_23 (by decide) (fun c15 => ?_) (fun c15 => ?_)
          · replace hm := ifp c15 hm
            obtain ⟨t16, et16⟩ : ∃ y : Int32, y = x6 + (1 : Int32) := ⟨_, rfl⟩
            replace hm := (nmd_eq et16).trans hm
            refine lv_iinc (v := t16) (lv' := [(6, .int t16), (1, .ref n_p1), (2, .int x2), (4, .int x4), (5, .int x5), (7, .int x7)]) hx hb dX6_from_123 hl (k := 4) rfl (by rw [et16]; rfl) (by decide) rfl (fun ls hl => ?_)
            refine lv_goto (tgt := 8) hx hb dX6_from_126 (by decide) ?_
            exact ih8 _ _ _ _ _ _ _ (lv_sub hl [1, 2, 3, 4, 0] rfl) hP hD hS hm
          · replace hm := ifn c15 hm
            refine lv_iload hx hb dX6_from_26 (lv_at hl 3 rfl) ?_
            refine lv_aload_n hx hb dX6_from_28 rfl (lv_at hl 0 rfl) ?_
            refine lv_iload hx hb dX6_from_29 (lv_at hl 5 rfl) ?_
            refine lv_iconst (v := (4 : Int32)) hx hb dX6_from_31 (by decide) ?_
            obtain ⟨r17, e18, hm⟩ := bnd1_some hm
            refine g_calli (w2 := (wd_b39fcd k n_t n_p1 n_text n_readPage n_page n_trial n_book n_kept n_isKept n_seenStation n_seenOther n_seenWide n_seenWas n_sines n_at n_column n_gram n_right n_work v_thrown v_textSize v_place v_stations v_readStations v_doings v_seen v_seed v_wide v_up v_low r_p1)) (va_runS (As := [.ref n_p1, .int x7, .int (4 : Int32)]) (rest := [.int x5]) ⟨hx, hb, hml, hown, hts⟩ (m_X6_of l dC dI k H.size n_p1 r_p1 x7 (4 : Int32) e18) (va_cwS 3 hts gX6_from_X6_of rfl rfl rfl (by decide +kernel) ⟨Nat.le_of_ble_eq_true rfl, Nat.le_of_ble_eq_true rfl⟩) (g_preS hG hP hD hS hA [1] rfl (by decide)) rfl rfl hl.1 rfl (lv_room (Nat.le_of_ble_eq_true rfl)) dX6_from_32 ⟨Nat.le_of_ble_eq_true rfl, Nat.le_of_ble_eq_true rfl⟩) hP hD hS hA [1] [0] [0, 1] rfl rfl (by decide) (by decide) rfl (by decide) (fun H locs hP hD hS => ?_)
            obtain ⟨r19, e20, hm⟩ := bnd1_some hm
            refine g_calli (w2 := (wd_b39fcd k n_t n_p1 n_text n_readPage n_page n_trial n_book n_kept n_isKept n_seenStation n_seenOther n_seenWide n_seenWas n_sines n_at n_column n_gram n_right n_work v_thrown v_textSize v_place v_stations v_readStations v_doings v_seen v_seed v_wide v_up v_low r_p1)) (va_runS (As := [.int x5, .int r17]) (rest := []) ⟨hx, hb, hml, hown, hts⟩ (m_X6_has l dC dI k H.size  x5 r17 e20) (va_cwS 2 hts gX6_from_X6_has rfl rfl rfl (by decide +kernel) ⟨Nat.le_of_ble_eq_true rfl, Nat.le_of_ble_eq_true rfl⟩) (g_preS hG hP hD hS hA [] rfl (by decide)) rfl rfl hl.1 rfl (lv_room (Nat.le_of_ble_eq_true rfl)) dX6_from_35 ⟨Nat.le_of_ble_eq_true rfl, Nat.le_of_ble_eq_true rfl⟩) hP hD hS hA [] [0, 1] [0, 1] rfl rfl (by decide) (by decide) rfl (by decide) (fun H locs hP hD hS => ?_)
            refine lv_if_ne (tgt := 56) hx hb dX6_from_38 (by decide) (fun c21 => ?_) (fun c21 => ?_)
            · replace hm := ifn c21 hm
              exact J_56 _ _ _ _ _ _ _ _ (lv_sub hl [0, 1, 2, 3, 4, 5] rfl) hP hD hS hm
            · replace hm := ifp c21 hm
              refine lv_iload hx hb dX6_from_41 (lv_at hl 3 rfl) ?_
              refine lv_aload_n hx hb dX6_from_43 rfl (lv_at hl 0 rfl) ?_
              refine lv_iload hx hb dX6_from_44 (lv_at hl 5 rfl) ?_
              refine lv_iconst (v := (5 : Int32)) hx hb dX6_from_46 (by decide) ?_
              obtain ⟨r22, e23, hm⟩ := bnd1_some hm
              refine g_calli (w2 := (wd_b39fcd k n_t n_p1 n_text n_readPage n_page n_trial n_book n_kept n_isKept n_seenStation n_seenOther n_seenWide n_seenWas n_sines n_at n_column n_gram n_right n_work v_thrown v_textSize v_place v_stations v_readStations v_doings v_seen v_seed v_wide v_up v_low r_p1)) (va_runS (As := [.ref n_p1, .int x7, .int (5 : Int32)]) (rest := [.int x5]) ⟨hx, hb, hml, hown, hts⟩ (m_X6_of l dC dI k H.size n_p1 r_p1 x7 (5 : Int32) e23) (va_cwS 3 hts gX6_from_X6_of rfl rfl rfl (by decide +kernel) ⟨Nat.le_of_ble_eq_true rfl, Nat.le_of_ble_eq_true rfl⟩) (g_preS hG hP hD hS hA [1] rfl (by decide)) rfl rfl hl.1 rfl (lv_room (Nat.le_of_ble_eq_true rfl)) dX6_from_47 ⟨Nat.le_of_ble_eq_true rfl, Nat.le_of_ble_eq_true rfl⟩) hP hD hS hA [1] [0] [0, 1] rfl rfl (by decide) (by decide) rfl (by decide) (fun H locs hP hD hS => ?_)
              obtain ⟨r24, e25, hm⟩ := bnd1_some hm
              refine g_calli (w2 := (wd_b39fcd k n_t n_p1 n_text n_readPage n_page n_trial n_book n_kept n_isKept n_seenStation n_seenOther n_seenWide n_seenWas n_sines n_at n_column n_gram n_right n_work v_thrown v_textSize v_place v_stations v_readStations v_doings v_seen v_seed v_wide v_up v_low r_p1)) (va_runS (As := [.int x5, .int r22]) (rest := []) ⟨hx, hb, hml, hown, hts⟩ (m_X6_has l dC dI k H.size  x5 r22 e25) (va_cwS 2 hts gX6_from_X6_has rfl rfl rfl (by decide +kernel) ⟨Nat.le_of_ble_eq_true rfl, Nat.le_of_ble_eq_true rfl⟩) (g_preS hG hP hD hS hA [] rfl (by decide)) rfl rfl hl.1 rfl (lv_room (Nat.le_of_ble_eq_true rfl)) dX6_from_50 ⟨Nat.le_of_ble_eq_true rfl, Nat.le_of_ble_eq_true rfl⟩) hP hD hS hA [] [0, 1] [0, 1] rfl rfl (by decide) (by decide) rfl (by decide) (fun H locs hP hD hS => ?_)
              refine lv_if_eq (tgt := 60) hx hb dX6_from_53 (by decide) (fun c26 => ?_) (fun c26 => ?_)
              · replace hm := ifp c26 hm
                refine lv_iconst (v := (0 : Int32)) hx hb dX6_from_60 (by decide) ?_
                exact J_61 _ _ _ _ _ _ _ _ _ (lv_sub hl [0, 1, 2, 3, 4, 5] rfl) hP hD hS hm
              · replace hm := ifn c26 hm
                exact J_56 _ _ _ _ _ _ _ _ (lv_sub hl [0, 1, 2, 3, 4, 5] rfl) hP hD hS hm
      intro x2 x4 x5 x6 H locs ls hl hP hD hS hm
      replace hm : f_X6_from_B8 F r_p1 (f_X6_from_L8 F r_p1 n8) x2 x4 x5 x6 = some o_r := hm
      unfold f_X6_from_B8 at hm
      refine lv_iload hx hb dX6_from_8 (lv_at hl 4 rfl) ?_
      refine lv_bipush (v := (6 : Int32)) hx hb dX6_from_10 (by decide) ?_
      refine lv_icmp_ge (tgt := 129) hx hb dX6_from_12 (by decide) (fun c27 => ?_) (fun c27 => ?_)
      · replace hm := ifp c27 hm
        refine lv_iload hx hb dX6_from_129 (lv_at hl 3 rfl) ?_
        exact RET _ _ _ _ _ dX6_from_131 hm hP hD hS
      · replace hm := ifn c27 hm
        refine lv_iconst (v := (0 : Int32)) hx hb dX6_from_15 (by decide) ?_
        refine lv_istore (lv' := [(7, .int (0 : Int32)), (1, .ref n_p1), (2, .int x2), (4, .int x4), (5, .int x5), (6, .int x6)]) hx hb dX6_from_16 hl (by decide) rfl (fun ls hl => ?_)
        exact L_18 F _ _ _ _ _ _ _ _ (lv_sub hl [1, 2, 3, 4, 5, 0] rfl) hP hD hS hm
  unfold f_X6_from at hm
  refine lv_iconst (v := (1 : Int32)) hx hb dX6_from_0 (by decide) ?_
  refine lv_iload_n hx hb dX6_from_1 rfl (lv_at hl 3 rfl) ?_
  refine g_ishl hx hb dX6_from_2 ?_
  refine lv_topi (fun t28 et28 => ?_)
  replace hm := (nmd_eq et28).trans hm
  refine lv_istore (lv' := [(5, .int t28), (0, .ref n_t), (1, .ref n_p1), (2, .int x2), (3, .int x3), (4, .int x4)]) hx hb dX6_from_3 hl (by decide) rfl (fun ls hl => ?_)
  refine lv_iconst (v := (0 : Int32)) hx hb dX6_from_5 (by decide) ?_
  refine lv_istore (lv' := [(6, .int (0 : Int32)), (5, .int t28), (0, .ref n_t), (1, .ref n_p1), (2, .int x2), (3, .int x3), (4, .int x4)]) hx hb dX6_from_6 hl (by decide) rfl (fun ls hl => ?_)
  exact L_8 F _ _ _ _ _ _ _ (lv_sub hl [3, 4, 6, 1, 0] rfl) hP hD hS hm
set_option maxRecDepth 100000 in
theorem m_X6_from (l : Launch) (dC : Nat → ClassId) (dI : Nat → Nat → Nat) (k : Nat → ClassId) (F : Nat) (sz : Nat) (n_t n_p1 n_text n_readPage n_page n_trial n_book n_kept n_isKept n_seenStation n_seenOther n_seenWide n_seenWas n_sines n_at n_column n_gram n_right n_work : Nat) (v_thrown : Int32) (v_textSize : Int32) (v_place : Int32) (v_stations : Int32) (v_readStations : Int32) (v_doings : Int32) (v_seen : Int32) (v_seed : Int64) (v_wide : Int32) (v_up : Int64) (v_low : Int64) (r_p1 : Nat → Int32) (x2 : Int32) (x3 : Int32) (x4 : Int32) {o_r : Int32} (hm : f_X6_from F x2 x3 x4 r_p1 = some o_r) : Met l yX6_from wsX6_from rm_X6_from (gPre dC dI k [.ref n_t, .ref n_p1, .int x2, .int x3, .int x4] sz (wd_b39fcd k n_t n_p1 n_text n_readPage n_page n_trial n_book n_kept n_isKept n_seenStation n_seenOther n_seenWide n_seenWas n_sines n_at n_column n_gram n_right n_work v_thrown v_textSize v_place v_stations v_readStations v_doings v_seen v_seed v_wide v_up v_low r_p1)) (gQI dC dI (va_A (wd_b39fcd k n_t n_p1 n_text n_readPage n_page n_trial n_book n_kept n_isKept n_seenStation n_seenOther n_seenWide n_seenWas n_sines n_at n_column n_gram n_right n_work v_thrown v_textSize v_place v_stations v_readStations v_doings v_seen v_seed v_wide v_up v_low r_p1) sz) o_r (wd_b39fcd k n_t n_p1 n_text n_readPage n_page n_trial n_book n_kept n_isKept n_seenStation n_seenOther n_seenWide n_seenWas n_sines n_at n_column n_gram n_right n_work v_thrown v_textSize v_place v_stations v_readStations v_doings v_seen v_seed v_wide v_up v_low r_p1)) 0 0 (va_A (wd_b39fcd k n_t n_p1 n_text n_readPage n_page n_trial n_book n_kept n_isKept n_seenStation n_seenOther n_seenWide n_seenWas n_sines n_at n_column n_gram n_right n_work v_thrown v_textSize v_place v_stations v_readStations v_doings v_seen v_seed v_wide v_up v_low r_p1) sz) := by
  refine g_entry (cc := cX6_from) (maxL := 9) (ret := (some .int)) (lv := [(0, .ref n_t), (1, .ref n_p1), (2, .int x2), (3, .int x3), (4, .int x4)]) (by decide +kernel) rfl (Nat.le_of_ble_eq_true rfl) rfl (fun p e s m below meth c ls hx hb hr hml hts hown hlk hnm hsz hG hA hP hD hS hl => ?_)
  exact k_X6_from hx hb hml hts hown hG hA F n_t n_p1 n_text n_readPage n_page n_trial n_book n_kept n_isKept n_seenStation n_seenOther n_seenWide n_seenWas n_sines n_at n_column n_gram n_right n_work v_thrown v_textSize v_place v_stations v_readStations v_doings v_seen v_seed v_wide v_up v_low r_p1 x2 x3 x4 o_r (fun pc H locs ls v hd ho hP hD hS => by cases ho; exact g_ireti hx hb hr hlk hP hD hS hd) s.heap [] ls hl hP hD hS hm
end
section
set_option maxHeartbeats 4000000 in
set_option maxRecDepth 100000 in
theorem k_X6_widestBy {p : Program} {l : Launch} {e : Env} {s : State} {m : MethodId} {args : Array Value} {below : List Frame} {meth : Method} {c : Code} {A : Nat → Prop} {Q : State → Prop} {dC : Nat → ClassId} {dI : Nat → Nat → Nat} {k : Nat → ClassId} (hx : p.tables.exec = Jvm.exec) (hb : c.code = cX6_widestBy) (hml : c.maxLocals = 6) (hts : ∀ w ∈ wsX6_widestBy, w.before args s = true) (hown : s.vm.findClass RX6 = some m.cls) (hG : gK dC dI k A s) (hA : ∀ q : Nat, s.heap.size ≤ q → A q) (F : Nat) (n_t n_p1 n_text n_readPage n_page n_trial n_book n_kept n_isKept n_seenStation n_seenOther n_seenWide n_seenWas n_sines n_at n_column n_gram n_right n_work : Nat) (v_thrown : Int32) (v_textSize : Int32) (v_place : Int32) (v_stations : Int32) (v_readStations : Int32) (v_doings : Int32) (v_seen : Int32) (v_seed : Int64) (v_wide : Int32) (v_up : Int64) (v_low : Int64) (r_p1 : Nat → Int32) (x2 : Int32) (x3 : Int32) (x4 : Int32) (o_r : Int32) (RET : ∀ (pc : Nat) (H : Heap) (locs : List Loc) (ls : Array Slot) (v : Int32), decode cX6_widestBy pc = .ok (.ireturn, 1) → some v = some o_r → va_P (dC, dI) vwCl (wd_b39fcd k n_t n_p1 n_text n_readPage n_page n_trial n_book n_kept n_isKept n_seenStation n_seenOther n_seenWide n_seenWas n_sines n_at n_column n_gram n_right n_work v_thrown v_textSize v_place v_stations v_readStations v_doings v_seen v_seed v_wide v_up v_low r_p1) H → va_D A (wd_b39fcd k n_t n_p1 n_text n_readPage n_page n_trial n_book n_kept n_isKept n_seenStation n_seenOther n_seenWide n_seenWas n_sines n_at n_column n_gram n_right n_work v_thrown v_textSize v_place v_stations v_readStations v_doings v_seen v_seed v_wide v_up v_low r_p1) → va_S A s.heap H locs → W p l e rm_X6_widestBy s m args below meth c H locs 0 0 Q (F0 m pc ls [.int v])) (H : Heap) (locs : List Loc) (ls : Array Slot) (hl : lv_has ls 6 [(0, .ref n_t), (1, .ref n_p1), (2, .int x2), (3, .int x3), (4, .int x4)]) (hP : va_P (dC, dI) vwCl (wd_b39fcd k n_t n_p1 n_text n_readPage n_page n_trial n_book n_kept n_isKept n_seenStation n_seenOther n_seenWide n_seenWas n_sines n_at n_column n_gram n_right n_work v_thrown v_textSize v_place v_stations v_readStations v_doings v_seen v_seed v_wide v_up v_low r_p1) H) (hD : va_D A (wd_b39fcd k n_t n_p1 n_text n_readPage n_page n_trial n_book n_kept n_isKept n_seenStation n_seenOther n_seenWide n_seenWas n_sines n_at n_column n_gram n_right n_work v_thrown v_textSize v_place v_stations v_readStations v_doings v_seen v_seed v_wide v_up v_low r_p1)) (hS : va_S A s.heap H locs) (hm : f_X6_widestBy F x2 x3 x4 r_p1 = some o_r) : W p l e rm_X6_widestBy s m args below meth c H locs 0 0 Q (F0 m 0 ls []) := by
  have L_15 : ∀ (n15 : Nat) (x2 : Int32) (x3 : Int32) (x4 : Int32) (x5 : Int32) (H : Heap) (locs : List Loc) (ls : Array Slot), lv_has ls 6 [(0, .ref n_t), (1, .ref n_p1), (2, .int x2), (3, .int x3), (4, .int x4), (5, .int x5)] → va_P (dC, dI) vwCl (wd_b39fcd k n_t n_p1 n_text n_readPage n_page n_trial n_book n_kept n_isKept n_seenStation n_seenOther n_seenWide n_seenWas n_sines n_at n_column n_gram n_right n_work v_thrown v_textSize v_place v_stations v_readStations v_doings v_seen v_seed v_wide v_up v_low r_p1) H → va_D A (wd_b39fcd k n_t n_p1 n_text n_readPage n_page n_trial n_book n_kept n_isKept n_seenStation n_seenOther n_seenWide n_seenWas n_sines n_at n_column n_gram n_right n_work v_thrown v_textSize v_place v_stations v_readStations v_doings v_seen v_seed v_wide v_up v_low r_p1) → va_S A s.heap H locs → f_X6_widestBy_L15 F r_p1 n15 x2 x3 x4 x5 = some o_r → W p l e rm_X6_widestBy s m args below meth c H locs 0 0 Q (F0 m 15 ls []) := by
    intro n15
    induction n15 with
    | zero =>
      intro x2 x3 x4 x5 H locs ls hl hP hD hS hm
      exact non_some hm
    | succ n15 ih15 =>
      intro x2 x3 x4 x5 H locs ls hl hP hD hS hm
      replace hm : f_X6_widestBy_B15 F r_p1 (f_X6_widestBy_L15 F r_p1 n15) x2 x3 x4 x5 = some o_r := hm
      unfold f_X6_widestBy_B15 at hm
      refine lv_iload hx hb dX6_widestBy_15 (lv_at hl 5 rfl) ?_
      refine lv_if_le (tgt := 49) hx hb dX6_widestBy_17 (by decide) (fun c1 => ?_) (fun c1 => ?_)
      · replace hm := ifp c1 hm
        refine lv_iload hx hb dX6_widestBy_49 (lv_at hl 5 rfl) ?_
        exact RET _ _ _ _ _ dX6_widestBy_51 hm hP hD hS
      · replace hm := ifn c1 hm
        refine lv_iload_n hx hb dX6_widestBy_20 rfl (lv_at hl 3 rfl) ?_
        refine lv_iload hx hb dX6_widestBy_21 (lv_at hl 4 rfl) ?_
        refine lv_icmp_eq (tgt := 49) hx hb dX6_widestBy_23 (by decide) (fun c2 => ?_) (fun c2 => ?_)
        · replace hm := ifp c2 hm
          refine lv_iload hx hb dX6_widestBy_49 (lv_at hl 5 rfl) ?_
          exact RET _ _ _ _ _ dX6_widestBy_51 hm hP hD hS
        · replace hm := ifn c2 hm
          refine lv_aload_n hx hb dX6_widestBy_26 rfl (lv_at hl 0 rfl) ?_
          refine lv_aload_n hx hb dX6_widestBy_27 rfl (lv_at hl 1 rfl) ?_
          refine lv_iload_n hx hb dX6_widestBy_28 rfl (lv_at hl 2 rfl) ?_
          refine lv_iload_n hx hb dX6_widestBy_29 rfl (lv_at hl 3 rfl) ?_
          refine lv_iload hx hb dX6_widestBy_30 (lv_at hl 5 rfl) ?_
          obtain ⟨r3, e4, hm⟩ := bnd1_some hm
          refine g_calli (w2 := (wd_b39fcd k n_t n_p1 n_text n_readPage n_page n_trial n_book n_kept n_isKept n_seenStation n_seenOther n_seenWide n_seenWas n_sines n_at n_column n_gram n_right n_work v_thrown v_textSize v_place v_stations v_readStations v_doings v_seen v_seed v_wide v_up v_low r_p1)) (va_runV (As := [.ref n_p1, .int x2, .int x3, .int x5]) (rest := []) ⟨hx, hb, hml, hown, hts⟩ (m_X6_from l dC dI k F H.size n_t n_p1 n_text n_readPage n_page n_trial n_book n_kept n_isKept n_seenStation n_seenOther n_seenWide n_seenWas n_sines n_at n_column n_gram n_right n_work v_thrown v_textSize v_place v_stations v_readStations v_doings v_seen v_seed v_wide v_up v_low r_p1 x2 x3 x5 e4) (cwV 4 hts gX6_widestBy_X6_from rfl rfl rfl (by decide +kernel) ⟨Nat.le_of_ble_eq_true rfl, Nat.le_of_ble_eq_true rfl⟩) (g_preV hG hP hD hS hA [0, 1] rfl (by decide) (ci := 6) (q0 := 0) rfl rfl) rfl rfl hl.1 rfl (lv_room (Nat.le_of_ble_eq_true rfl)) dX6_widestBy_32 ⟨Nat.le_of_ble_eq_true rfl, Nat.le_of_ble_eq_true rfl⟩) hP hD hS hA [0, 1] [] [0, 1] rfl rfl (by decide) (by decide) rfl (by decide) (fun H locs hP hD hS => ?_)
          refine lv_iload hx hb dX6_widestBy_35 (lv_at hl 4 rfl) ?_
          obtain ⟨r5, e6, hm⟩ := bnd1_some hm
          refine g_calli (w2 := (wd_b39fcd k n_t n_p1 n_text n_readPage n_page n_trial n_book n_kept n_isKept n_seenStation n_seenOther n_seenWide n_seenWas n_sines n_at n_column n_gram n_right n_work v_thrown v_textSize v_place v_stations v_readStations v_doings v_seen v_seed v_wide v_up v_low r_p1)) (va_runS (As := [.int r3, .int x4]) (rest := []) ⟨hx, hb, hml, hown, hts⟩ (m_X6_has l dC dI k H.size  r3 x4 e6) (va_cwS 2 hts gX6_widestBy_X6_has rfl rfl rfl (by decide +kernel) ⟨Nat.le_of_ble_eq_true rfl, Nat.le_of_ble_eq_true rfl⟩) (g_preS hG hP hD hS hA [] rfl (by decide)) rfl rfl hl.1 rfl (lv_room (Nat.le_of_ble_eq_true rfl)) dX6_widestBy_37 ⟨Nat.le_of_ble_eq_true rfl, Nat.le_of_ble_eq_true rfl⟩) hP hD hS hA [] [0, 1] [0, 1] rfl rfl (by decide) (by decide) rfl (by decide) (fun H locs hP hD hS => ?_)
          refine lv_if_ne (tgt := 49) hx hb dX6_widestBy_40 (by decide) (fun c7 => ?_) (fun c7 => ?_)
          · replace hm := ifn c7 hm
            refine lv_iload hx hb dX6_widestBy_49 (lv_at hl 5 rfl) ?_
            exact RET _ _ _ _ _ dX6_widestBy_51 hm hP hD hS
          · replace hm := ifp c7 hm
            obtain ⟨t8, et8⟩ : ∃ y : Int32, y = x5 + (-1 : Int32) := ⟨_, rfl⟩
            replace hm := (nmd_eq et8).trans hm
            refine lv_iinc (v := t8) (lv' := [(5, .int t8), (0, .ref n_t), (1, .ref n_p1), (2, .int x2), (3, .int x3), (4, .int x4)]) hx hb dX6_widestBy_43 hl (k := 5) rfl (by rw [et8]; rfl) (by decide) rfl (fun ls hl => ?_)
            refine lv_goto (tgt := 15) hx hb dX6_widestBy_46 (by decide) ?_
            exact ih15 _ _ _ _ _ _ _ (lv_sub hl [1, 2, 3, 4, 5, 0] rfl) hP hD hS hm
  have J_13 : ∀ (x2 : Int32) (x3 : Int32) (x4 : Int32) (s0 : Int32) (H : Heap) (locs : List Loc) (ls : Array Slot), lv_has ls 6 [(0, .ref n_t), (1, .ref n_p1), (2, .int x2), (3, .int x3), (4, .int x4)] → va_P (dC, dI) vwCl (wd_b39fcd k n_t n_p1 n_text n_readPage n_page n_trial n_book n_kept n_isKept n_seenStation n_seenOther n_seenWide n_seenWas n_sines n_at n_column n_gram n_right n_work v_thrown v_textSize v_place v_stations v_readStations v_doings v_seen v_seed v_wide v_up v_low r_p1) H → va_D A (wd_b39fcd k n_t n_p1 n_text n_readPage n_page n_trial n_book n_kept n_isKept n_seenStation n_seenOther n_seenWide n_seenWas n_sines n_at n_column n_gram n_right n_work v_thrown v_textSize v_place v_stations v_readStations v_doings v_seen v_seed v_wide v_up v_low r_p1) → va_S A s.heap H locs → f_X6_widestBy_J13 F r_p1 x2 x3 x4 s0 = some o_r → W p l e rm_X6_widestBy s m args below meth c H locs 0 0 Q (F0 m 13 ls [.int s0]) := by
    intro x2 x3 x4 s0 H locs ls hl hP hD hS hm
    unfold f_X6_widestBy_J13 at hm
    refine lv_istore (lv' := [(5, .int s0), (0, .ref n_t), (1, .ref n_p1), (2, .int x2), (3, .int x3), (4, .int x4)]) hx hb dX6_widestBy_13 hl (by decide) rfl (fun ls hl => ?_)
    exact L_15 F _ _ _ _ _ _ _ (lv_sub hl [1, 2, 3, 4, 5, 0] rfl) hP hD hS hm
  unfold f_X6_widestBy at hm
  refine lv_iload_n hx hb dX6_widestBy_0 rfl (lv_at hl 3 rfl) ?_
  refine lv_iload hx hb dX6_widestBy_1 (lv_at hl 4 rfl) ?_
  refine lv_icmp_ne (tgt := 11) hx hb dX6_widestBy_3 (by decide) (fun c9 => ?_) (fun c9 => ?_)
  · replace hm := ifn c9 hm
    refine lv_bipush (v := (9 : Int32)) hx hb dX6_widestBy_11 (by decide) ?_
    exact J_13 _ _ _ _ _ _ _ (lv_sub hl [0, 1, 2, 3, 4] rfl) hP hD hS hm
  · replace hm := ifp c9 hm
    refine lv_bipush (v := (10 : Int32)) hx hb dX6_widestBy_6 (by decide) ?_
    refine lv_goto (tgt := 13) hx hb dX6_widestBy_8 (by decide) ?_
    exact J_13 _ _ _ _ _ _ _ (lv_sub hl [0, 1, 2, 3, 4] rfl) hP hD hS hm
set_option maxRecDepth 100000 in
theorem m_X6_widestBy (l : Launch) (dC : Nat → ClassId) (dI : Nat → Nat → Nat) (k : Nat → ClassId) (F : Nat) (sz : Nat) (n_t n_p1 n_text n_readPage n_page n_trial n_book n_kept n_isKept n_seenStation n_seenOther n_seenWide n_seenWas n_sines n_at n_column n_gram n_right n_work : Nat) (v_thrown : Int32) (v_textSize : Int32) (v_place : Int32) (v_stations : Int32) (v_readStations : Int32) (v_doings : Int32) (v_seen : Int32) (v_seed : Int64) (v_wide : Int32) (v_up : Int64) (v_low : Int64) (r_p1 : Nat → Int32) (x2 : Int32) (x3 : Int32) (x4 : Int32) {o_r : Int32} (hm : f_X6_widestBy F x2 x3 x4 r_p1 = some o_r) : Met l yX6_widestBy wsX6_widestBy rm_X6_widestBy (gPre dC dI k [.ref n_t, .ref n_p1, .int x2, .int x3, .int x4] sz (wd_b39fcd k n_t n_p1 n_text n_readPage n_page n_trial n_book n_kept n_isKept n_seenStation n_seenOther n_seenWide n_seenWas n_sines n_at n_column n_gram n_right n_work v_thrown v_textSize v_place v_stations v_readStations v_doings v_seen v_seed v_wide v_up v_low r_p1)) (gQI dC dI (va_A (wd_b39fcd k n_t n_p1 n_text n_readPage n_page n_trial n_book n_kept n_isKept n_seenStation n_seenOther n_seenWide n_seenWas n_sines n_at n_column n_gram n_right n_work v_thrown v_textSize v_place v_stations v_readStations v_doings v_seen v_seed v_wide v_up v_low r_p1) sz) o_r (wd_b39fcd k n_t n_p1 n_text n_readPage n_page n_trial n_book n_kept n_isKept n_seenStation n_seenOther n_seenWide n_seenWas n_sines n_at n_column n_gram n_right n_work v_thrown v_textSize v_place v_stations v_readStations v_doings v_seen v_seed v_wide v_up v_low r_p1)) 0 0 (va_A (wd_b39fcd k n_t n_p1 n_text n_readPage n_page n_trial n_book n_kept n_isKept n_seenStation n_seenOther n_seenWide n_seenWas n_sines n_at n_column n_gram n_right n_work v_thrown v_textSize v_place v_stations v_readStations v_doings v_seen v_seed v_wide v_up v_low r_p1) sz) := by
  refine g_entry (cc := cX6_widestBy) (maxL := 6) (ret := (some .int)) (lv := [(0, .ref n_t), (1, .ref n_p1), (2, .int x2), (3, .int x3), (4, .int x4)]) (by decide +kernel) rfl (Nat.le_of_ble_eq_true rfl) rfl (fun p e s m below meth c ls hx hb hr hml hts hown hlk hnm hsz hG hA hP hD hS hl => ?_)
  exact k_X6_widestBy hx hb hml hts hown hG hA F n_t n_p1 n_text n_readPage n_page n_trial n_book n_kept n_isKept n_seenStation n_seenOther n_seenWide n_seenWas n_sines n_at n_column n_gram n_right n_work v_thrown v_textSize v_place v_stations v_readStations v_doings v_seen v_seed v_wide v_up v_low r_p1 x2 x3 x4 o_r (fun pc H locs ls v hd ho hP hD hS => by cases ho; exact g_ireti hx hb hr hlk hP hD hS hd) s.heap [] ls hl hP hD hS hm
end
section
set_option maxHeartbeats 4000000 in
set_option maxRecDepth 100000 in
theorem k_X6_widest {p : Program} {l : Launch} {e : Env} {s : State} {m : MethodId} {args : Array Value} {below : List Frame} {meth : Method} {c : Code} {A : Nat → Prop} {Q : State → Prop} {dC : Nat → ClassId} {dI : Nat → Nat → Nat} {k : Nat → ClassId} (hx : p.tables.exec = Jvm.exec) (hb : c.code = cX6_widest) (hml : c.maxLocals = 3) (hts : ∀ w ∈ wsX6_widest, w.before args s = true) (hown : s.vm.findClass RX6 = some m.cls) (hG : gK dC dI k A s) (hA : ∀ q : Nat, s.heap.size ≤ q → A q) (F : Nat) (n_t n_text n_readPage n_page n_trial n_book n_kept n_isKept n_seenStation n_seenOther n_seenWide n_seenWas n_sines n_at n_column n_gram n_right n_work : Nat) (v_thrown : Int32) (v_textSize : Int32) (v_place : Int32) (v_stations : Int32) (v_readStations : Int32) (v_doings : Int32) (v_seen : Int32) (v_seed : Int64) (v_wide : Int32) (v_up : Int64) (v_low : Int64) (r_page : Nat → Int32) (x1 : Int32) (x2 : Int32) (o_r : Int32) (o_v_thrown : (Int32)) (RET : ∀ (pc : Nat) (H : Heap) (locs : List Loc) (ls : Array Slot) (v : Int32) (q_v_thrown : Int32), decode cX6_widest pc = .ok (.ireturn, 1) → some (v, q_v_thrown) = some (o_r, o_v_thrown) → va_P (dC, dI) vwCl (wd_6d76fb k n_t n_text n_readPage n_page n_trial n_book n_kept n_isKept n_seenStation n_seenOther n_seenWide n_seenWas n_sines n_at n_column n_gram n_right n_work q_v_thrown v_textSize v_place v_stations v_readStations v_doings v_seen v_seed v_wide v_up v_low r_page) H → va_D A (wd_6d76fb k n_t n_text n_readPage n_page n_trial n_book n_kept n_isKept n_seenStation n_seenOther n_seenWide n_seenWas n_sines n_at n_column n_gram n_right n_work q_v_thrown v_textSize v_place v_stations v_readStations v_doings v_seen v_seed v_wide v_up v_low r_page) → va_S A s.heap H locs → W p l e rm_X6_widest s m args below meth c H locs 0 0 Q (F0 m pc ls [.int v])) (H : Heap) (locs : List Loc) (ls : Array Slot) (hl : lv_has ls 3 [(0, .ref n_t), (1, .int x1), (2, .int x2)]) (hP : va_P (dC, dI) vwCl (wd_6d76fb k n_t n_text n_readPage n_page n_trial n_book n_kept n_isKept n_seenStation n_seenOther n_seenWide n_seenWas n_sines n_at n_column n_gram n_right n_work v_thrown v_textSize v_place v_stations v_readStations v_doings v_seen v_seed v_wide v_up v_low r_page) H) (hD : va_D A (wd_6d76fb k n_t n_text n_readPage n_page n_trial n_book n_kept n_isKept n_seenStation n_seenOther n_seenWide n_seenWas n_sines n_at n_column n_gram n_right n_work v_thrown v_textSize v_place v_stations v_readStations v_doings v_seen v_seed v_wide v_up v_low r_page)) (hS : va_S A s.heap H locs) (hm : f_X6_widest F x1 x2 v_thrown v_stations r_page = some (o_r, o_v_thrown)) : W p l e rm_X6_widest s m args below meth c H locs 0 0 Q (F0 m 0 ls []) := by
  have hinX6 : ∀ w ∈ u_ws RX6 TX6 28, w ∈ wsX6_widest := by decide +kernel
  have k0 := hts (.fieldLink RX6 67 "CaveLegsModel" "thrown" "I") (by decide +kernel)
  have k1 := hts (.fieldLink RX6 20 "CaveLegsModel" "page" "[I") (by decide +kernel)
  have J_21 : ∀ (v_thrown : Int32) (H : Heap) (locs : List Loc) (ls : Array Slot), lv_has ls 3 [] → va_P (dC, dI) vwCl (wd_6d76fb k n_t n_text n_readPage n_page n_trial n_book n_kept n_isKept n_seenStation n_seenOther n_seenWide n_seenWas n_sines n_at n_column n_gram n_right n_work v_thrown v_textSize v_place v_stations v_readStations v_doings v_seen v_seed v_wide v_up v_low r_page) H → va_D A (wd_6d76fb k n_t n_text n_readPage n_page n_trial n_book n_kept n_isKept n_seenStation n_seenOther n_seenWide n_seenWas n_sines n_at n_column n_gram n_right n_work v_thrown v_textSize v_place v_stations v_readStations v_doings v_seen v_seed v_wide v_up v_low r_page) → va_S A s.heap H locs → f_X6_widest_J21 F v_stations r_page v_thrown = some (o_r, o_v_thrown) → W p l e rm_X6_widest s m args below meth c H locs 0 0 Q (F0 m 21 ls []) := by
    intro v_thrown H locs ls hl hP hD hS hm
    unfold f_X6_widest_J21 at hm
    refine lv_iconst (v := (-1 : Int32)) hx hb dX6_widest_21 (by decide) ?_
    refine lv_goto (tgt := 42) hx hb dX6_widest_22 (by decide) ?_
    exact RET _ _ _ _ _ _ dX6_widest_42 hm hP hD hS
  unfold f_X6_widest at hm
  refine lv_aload_n hx hb dX6_widest_0 rfl (lv_at hl 0 rfl) ?_
  refine lv_iconst (v := (0 : Int32)) hx hb dX6_widest_1 (by decide) ?_
  refine va_put (D := (dC, dI)) (ci := 6) (v := .int (0 : Int32)) (ty := .int) (C := RX6) (T := TX6) (N := 28) hx hb hts hinX6 tyX6 tyX6_ok nmX6 hown hG.1 hP hD hS 0 rfl rfl 0 (by decide) k0 (fun _ h9 => h9) rfl (by decide +kernel) rfl rfl (Nat.le_of_ble_eq_true rfl) dX6_widest_2 (fun H locs hP hD hS => ?_)
  replace hP : va_P (dC, dI) vwCl (wd_6d76fb k n_t n_text n_readPage n_page n_trial n_book n_kept n_isKept n_seenStation n_seenOther n_seenWide n_seenWas n_sines n_at n_column n_gram n_right n_work (0 : Int32) v_textSize v_place v_stations v_readStations v_doings v_seen v_seed v_wide v_up v_low r_page) H := hP
  replace hD : va_D A (wd_6d76fb k n_t n_text n_readPage n_page n_trial n_book n_kept n_isKept n_seenStation n_seenOther n_seenWide n_seenWas n_sines n_at n_column n_gram n_right n_work (0 : Int32) v_textSize v_place v_stations v_readStations v_doings v_seen v_seed v_wide v_up v_low r_page) := hD
  refine lv_aload_n hx hb dX6_widest_5 rfl (lv_at hl 0 rfl) ?_
  refine lv_iload_n hx hb dX6_widest_6 rfl (lv_at hl 1 rfl) ?_
  obtain ⟨r1, e2, hm⟩ := bnd1_some hm
  refine g_calli (w2 := (wd_6d76fb k n_t n_text n_readPage n_page n_trial n_book n_kept n_isKept n_seenStation n_seenOther n_seenWide n_seenWas n_sines n_at n_column n_gram n_right n_work (0 : Int32) v_textSize v_place v_stations v_readStations v_doings v_seen v_seed v_wide v_up v_low r_page)) (va_runV (As := [.int x1]) (rest := []) ⟨hx, hb, hml, hown, hts⟩ (m_X6_noStation l dC dI k H.size n_t n_text n_readPage n_page n_trial n_book n_kept n_isKept n_seenStation n_seenOther n_seenWide n_seenWas n_sines n_at n_column n_gram n_right n_work (0 : Int32) v_textSize v_place v_stations v_readStations v_doings v_seen v_seed v_wide v_up v_low x1 e2) (cwV 1 hts gX6_widest_X6_noStation rfl rfl rfl (by decide +kernel) ⟨Nat.le_of_ble_eq_true rfl, Nat.le_of_ble_eq_true rfl⟩) (g_preV hG hP hD hS hA [0] rfl (by decide) (ci := 6) (q0 := 0) rfl rfl) rfl rfl hl.1 rfl (lv_room (Nat.le_of_ble_eq_true rfl)) dX6_widest_7 ⟨Nat.le_of_ble_eq_true rfl, Nat.le_of_ble_eq_true rfl⟩) hP hD hS hA [0] [1] [1, 0] rfl rfl (by decide) (by decide) rfl (by decide) (fun H locs hP hD hS => ?_)
  refine lv_if_ne (tgt := 21) hx hb dX6_widest_10 (by decide) (fun c3 => ?_) (fun c3 => ?_)
  · replace hm := ifn c3 hm
    exact J_21 _ _ _ _ (lv_sub hl [] rfl) hP hD hS hm
  · replace hm := ifp c3 hm
    refine lv_aload_n hx hb dX6_widest_13 rfl (lv_at hl 0 rfl) ?_
    refine lv_iload_n hx hb dX6_widest_14 rfl (lv_at hl 2 rfl) ?_
    obtain ⟨r4, e5, hm⟩ := bnd1_some hm
    refine g_calli (w2 := (wd_6d76fb k n_t n_text n_readPage n_page n_trial n_book n_kept n_isKept n_seenStation n_seenOther n_seenWide n_seenWas n_sines n_at n_column n_gram n_right n_work (0 : Int32) v_textSize v_place v_stations v_readStations v_doings v_seen v_seed v_wide v_up v_low r_page)) (va_runV (As := [.int x2]) (rest := []) ⟨hx, hb, hml, hown, hts⟩ (m_X6_noStation l dC dI k H.size n_t n_text n_readPage n_page n_trial n_book n_kept n_isKept n_seenStation n_seenOther n_seenWide n_seenWas n_sines n_at n_column n_gram n_right n_work (0 : Int32) v_textSize v_place v_stations v_readStations v_doings v_seen v_seed v_wide v_up v_low x2 e5) (cwV 1 hts gX6_widest_X6_noStation rfl rfl rfl (by decide +kernel) ⟨Nat.le_of_ble_eq_true rfl, Nat.le_of_ble_eq_true rfl⟩) (g_preV hG hP hD hS hA [0] rfl (by decide) (ci := 6) (q0 := 0) rfl rfl) rfl rfl hl.1 rfl (lv_room (Nat.le_of_ble_eq_true rfl)) dX6_widest_15 ⟨Nat.le_of_ble_eq_true rfl, Nat.le_of_ble_eq_true rfl⟩) hP hD hS hA [0] [1] [1, 0] rfl rfl (by decide) (by decide) rfl (by decide) (fun H locs hP hD hS => ?_)
    refine lv_if_eq (tgt := 25) hx hb dX6_widest_18 (by decide) (fun c6 => ?_) (fun c6 => ?_)
    · replace hm := ifp c6 hm
      refine lv_aload_n hx hb dX6_widest_25 rfl (lv_at hl 0 rfl) ?_
      refine lv_aload_n hx hb dX6_widest_26 rfl (lv_at hl 0 rfl) ?_
      refine va_get (D := (dC, dI)) (ci := 6) (v := .ref n_page) (C := RX6) (T := TX6) (N := 28) hx hb hts hinX6 hown hG.1 hP 0 rfl rfl 7 (by decide) k1 (fun _ h9 => h9) rfl dX6_widest_27 ?_
      refine lv_aload_n hx hb dX6_widest_30 rfl (lv_at hl 0 rfl) ?_
      refine va_get (D := (dC, dI)) (ci := 6) (v := .ref n_page) (C := RX6) (T := TX6) (N := 28) hx hb hts hinX6 hown hG.1 hP 0 rfl rfl 7 (by decide) k1 (fun _ h9 => h9) rfl dX6_widest_31 ?_
      obtain ⟨r7, e8, hm⟩ := bnd1_some hm
      refine g_calli (w2 := (wd_6d76fb k n_t n_text n_readPage n_page n_trial n_book n_kept n_isKept n_seenStation n_seenOther n_seenWide n_seenWas n_sines n_at n_column n_gram n_right n_work (0 : Int32) v_textSize v_place v_stations v_readStations v_doings v_seen v_seed v_wide v_up v_low r_page)) (va_runS (As := [.ref n_page]) (rest := [.ref n_page, .ref n_t]) ⟨hx, hb, hml, hown, hts⟩ (m_X6_openOnes l dC dI k H.size n_page r_page  e8) (va_cwS 1 hts gX6_widest_X6_openOnes rfl rfl rfl (by decide +kernel) ⟨Nat.le_of_ble_eq_true rfl, Nat.le_of_ble_eq_true rfl⟩) (g_preS hG hP hD hS hA [1] rfl (by decide)) rfl rfl hl.1 rfl (lv_room (Nat.le_of_ble_eq_true rfl)) dX6_widest_34 ⟨Nat.le_of_ble_eq_true rfl, Nat.le_of_ble_eq_true rfl⟩) hP hD hS hA [1] [0] [0, 1] rfl rfl (by decide) (by decide) rfl (by decide) (fun H locs hP hD hS => ?_)
      refine lv_iload_n hx hb dX6_widest_37 rfl (lv_at hl 1 rfl) ?_
      refine lv_iload_n hx hb dX6_widest_38 rfl (lv_at hl 2 rfl) ?_
      obtain ⟨r9, e10, hm⟩ := bnd1_some hm
      refine g_calli (w2 := (wd_6d76fb k n_t n_text n_readPage n_page n_trial n_book n_kept n_isKept n_seenStation n_seenOther n_seenWide n_seenWas n_sines n_at n_column n_gram n_right n_work (0 : Int32) v_textSize v_place v_stations v_readStations v_doings v_seen v_seed v_wide v_up v_low r_page)) (va_runV (As := [.ref n_page, .int r7, .int x1, .int x2]) (rest := []) ⟨hx, hb, hml, hown, hts⟩ (m_X6_widestBy l dC dI k F H.size n_t n_page n_text n_readPage n_page n_trial n_book n_kept n_isKept n_seenStation n_seenOther n_seenWide n_seenWas n_sines n_at n_column n_gram n_right n_work (0 : Int32) v_textSize v_place v_stations v_readStations v_doings v_seen v_seed v_wide v_up v_low r_page r7 x1 x2 e10) (cwV 4 hts gX6_widest_X6_widestBy rfl rfl rfl (by decide +kernel) ⟨Nat.le_of_ble_eq_true rfl, Nat.le_of_ble_eq_true rfl⟩) (g_preV hG hP hD hS hA [0, 1] rfl (by decide) (ci := 6) (q0 := 0) rfl rfl) rfl rfl hl.1 rfl (lv_room (Nat.le_of_ble_eq_true rfl)) dX6_widest_39 ⟨Nat.le_of_ble_eq_true rfl, Nat.le_of_ble_eq_true rfl⟩) hP hD hS hA [0, 1] [] [0, 1] rfl rfl (by decide) (by decide) rfl (by decide) (fun H locs hP hD hS => ?_)
      exact RET _ _ _ _ _ _ dX6_widest_42 hm hP hD hS
    · replace hm := ifn c6 hm
      exact J_21 _ _ _ _ (lv_sub hl [] rfl) hP hD hS hm
set_option maxRecDepth 100000 in
theorem m_X6_widest (l : Launch) (dC : Nat → ClassId) (dI : Nat → Nat → Nat) (k : Nat → ClassId) (F : Nat) (sz : Nat) (n_t n_text n_readPage n_page n_trial n_book n_kept n_isKept n_seenStation n_seenOther n_seenWide n_seenWas n_sines n_at n_column n_gram n_right n_work : Nat) (v_thrown : Int32) (v_textSize : Int32) (v_place : Int32) (v_stations : Int32) (v_readStations : Int32) (v_doings : Int32) (v_seen : Int32) (v_seed : Int64) (v_wide : Int32) (v_up : Int64) (v_low : Int64) (r_page : Nat → Int32) (x1 : Int32) (x2 : Int32) {o_r : Int32} {o_v_thrown : (Int32)} (hm : f_X6_widest F x1 x2 v_thrown v_stations r_page = some (o_r, o_v_thrown)) : Met l yX6_widest wsX6_widest rm_X6_widest (gPre dC dI k [.ref n_t, .int x1, .int x2] sz (wd_6d76fb k n_t n_text n_readPage n_page n_trial n_book n_kept n_isKept n_seenStation n_seenOther n_seenWide n_seenWas n_sines n_at n_column n_gram n_right n_work v_thrown v_textSize v_place v_stations v_readStations v_doings v_seen v_seed v_wide v_up v_low r_page)) (gQI dC dI (va_A (wd_6d76fb k n_t n_text n_readPage n_page n_trial n_book n_kept n_isKept n_seenStation n_seenOther n_seenWide n_seenWas n_sines n_at n_column n_gram n_right n_work v_thrown v_textSize v_place v_stations v_readStations v_doings v_seen v_seed v_wide v_up v_low r_page) sz) o_r (wd_6d76fb k n_t n_text n_readPage n_page n_trial n_book n_kept n_isKept n_seenStation n_seenOther n_seenWide n_seenWas n_sines n_at n_column n_gram n_right n_work o_v_thrown v_textSize v_place v_stations v_readStations v_doings v_seen v_seed v_wide v_up v_low r_page)) 0 0 (va_A (wd_6d76fb k n_t n_text n_readPage n_page n_trial n_book n_kept n_isKept n_seenStation n_seenOther n_seenWide n_seenWas n_sines n_at n_column n_gram n_right n_work v_thrown v_textSize v_place v_stations v_readStations v_doings v_seen v_seed v_wide v_up v_low r_page) sz) := by
  refine g_entry (cc := cX6_widest) (maxL := 3) (ret := (some .int)) (lv := [(0, .ref n_t), (1, .int x1), (2, .int x2)]) (by decide +kernel) rfl (Nat.le_of_ble_eq_true rfl) rfl (fun p e s m below meth c ls hx hb hr hml hts hown hlk hnm hsz hG hA hP hD hS hl => ?_)
  exact k_X6_widest hx hb hml hts hown hG hA F n_t n_text n_readPage n_page n_trial n_book n_kept n_isKept n_seenStation n_seenOther n_seenWide n_seenWas n_sines n_at n_column n_gram n_right n_work v_thrown v_textSize v_place v_stations v_readStations v_doings v_seen v_seed v_wide v_up v_low r_page x1 x2 o_r o_v_thrown (fun pc H locs ls v q_v_thrown hd ho hP hD hS => by cases ho; exact g_ireti hx hb hr hlk hP hD hS hd) s.heap [] ls hl hP hD hS hm
end
section
set_option maxHeartbeats 4000000 in
set_option maxRecDepth 100000 in
theorem k_X6_come {p : Program} {l : Launch} {e : Env} {s : State} {m : MethodId} {args : Array Value} {below : List Frame} {meth : Method} {c : Code} {A : Nat → Prop} {Q : State → Prop} {dC : Nat → ClassId} {dI : Nat → Nat → Nat} {k : Nat → ClassId} (hx : p.tables.exec = Jvm.exec) (hb : c.code = cX6_come) (hml : c.maxLocals = 2) (hts : ∀ w ∈ wsX6_come, w.before args s = true) (hown : s.vm.findClass RX6 = some m.cls) (hG : gK dC dI k A s) (hA : ∀ q : Nat, s.heap.size ≤ q → A q) (F : Nat) (n_t n_text n_readPage n_page n_trial n_book n_kept n_isKept n_seenStation n_seenOther n_seenWide n_seenWas n_sines n_at n_column n_gram n_right n_work : Nat) (v_thrown : Int32) (v_textSize : Int32) (v_place : Int32) (v_stations : Int32) (v_readStations : Int32) (v_doings : Int32) (v_seen : Int32) (v_seed : Int64) (v_wide : Int32) (v_up : Int64) (v_low : Int64) (r_page : Nat → Int32) (x1 : Int32) (o_r : Int32) (o_v_thrown : (Int32)) (RET : ∀ (pc : Nat) (H : Heap) (locs : List Loc) (ls : Array Slot) (v : Int32) (q_v_thrown : Int32), decode cX6_come pc = .ok (.ireturn, 1) → some (v, q_v_thrown) = some (o_r, o_v_thrown) → va_P (dC, dI) vwCl (wd_6d76fb k n_t n_text n_readPage n_page n_trial n_book n_kept n_isKept n_seenStation n_seenOther n_seenWide n_seenWas n_sines n_at n_column n_gram n_right n_work q_v_thrown v_textSize v_place v_stations v_readStations v_doings v_seen v_seed v_wide v_up v_low r_page) H → va_D A (wd_6d76fb k n_t n_text n_readPage n_page n_trial n_book n_kept n_isKept n_seenStation n_seenOther n_seenWide n_seenWas n_sines n_at n_column n_gram n_right n_work q_v_thrown v_textSize v_place v_stations v_readStations v_doings v_seen v_seed v_wide v_up v_low r_page) → va_S A s.heap H locs → W p l e rm_X6_come s m args below meth c H locs 0 0 Q (F0 m pc ls [.int v])) (H : Heap) (locs : List Loc) (ls : Array Slot) (hl : lv_has ls 2 [(0, .ref n_t), (1, .int x1)]) (hP : va_P (dC, dI) vwCl (wd_6d76fb k n_t n_text n_readPage n_page n_trial n_book n_kept n_isKept n_seenStation n_seenOther n_seenWide n_seenWas n_sines n_at n_column n_gram n_right n_work v_thrown v_textSize v_place v_stations v_readStations v_doings v_seen v_seed v_wide v_up v_low r_page) H) (hD : va_D A (wd_6d76fb k n_t n_text n_readPage n_page n_trial n_book n_kept n_isKept n_seenStation n_seenOther n_seenWide n_seenWas n_sines n_at n_column n_gram n_right n_work v_thrown v_textSize v_place v_stations v_readStations v_doings v_seen v_seed v_wide v_up v_low r_page)) (hS : va_S A s.heap H locs) (hm : f_X6_come F x1 v_thrown r_page = some (o_r, o_v_thrown)) : W p l e rm_X6_come s m args below meth c H locs 0 0 Q (F0 m 0 ls []) := by
  have hinX6 : ∀ w ∈ u_ws RX6 TX6 28, w ∈ wsX6_come := by decide +kernel
  have k0 := hts (.fieldLink RX6 67 "CaveLegsModel" "thrown" "I") (by decide +kernel)
  have k1 := hts (.constantLong RX6 117 (9)) (by decide +kernel)
  have k2 := hts (.fieldLink RX6 20 "CaveLegsModel" "page" "[I") (by decide +kernel)
  unfold f_X6_come at hm
  refine lv_aload_n hx hb dX6_come_0 rfl (lv_at hl 0 rfl) ?_
  refine lv_iconst (v := (0 : Int32)) hx hb dX6_come_1 (by decide) ?_
  refine va_put (D := (dC, dI)) (ci := 6) (v := .int (0 : Int32)) (ty := .int) (C := RX6) (T := TX6) (N := 28) hx hb hts hinX6 tyX6 tyX6_ok nmX6 hown hG.1 hP hD hS 0 rfl rfl 0 (by decide) k0 (fun _ h9 => h9) rfl (by decide +kernel) rfl rfl (Nat.le_of_ble_eq_true rfl) dX6_come_2 (fun H locs hP hD hS => ?_)
  replace hP : va_P (dC, dI) vwCl (wd_6d76fb k n_t n_text n_readPage n_page n_trial n_book n_kept n_isKept n_seenStation n_seenOther n_seenWide n_seenWas n_sines n_at n_column n_gram n_right n_work (0 : Int32) v_textSize v_place v_stations v_readStations v_doings v_seen v_seed v_wide v_up v_low r_page) H := hP
  replace hD : va_D A (wd_6d76fb k n_t n_text n_readPage n_page n_trial n_book n_kept n_isKept n_seenStation n_seenOther n_seenWide n_seenWas n_sines n_at n_column n_gram n_right n_work (0 : Int32) v_textSize v_place v_stations v_readStations v_doings v_seen v_seed v_wide v_up v_low r_page) := hD
  refine lv_iload_n hx hb dX6_come_5 rfl (lv_at hl 1 rfl) ?_
  refine g_i2l hx hb dX6_come_6 ?_
  refine lv_lconst (v := (1 : Int64)) hx hb dX6_come_7 (by decide) ?_
  refine lv_ldc2 (v := (9 : Int64)) hx hb hown k1 dX6_come_8 ?_
  obtain ⟨r1, e2, hm⟩ := bnd1_some hm
  refine g_calli (w2 := (wd_6d76fb k n_t n_text n_readPage n_page n_trial n_book n_kept n_isKept n_seenStation n_seenOther n_seenWide n_seenWas n_sines n_at n_column n_gram n_right n_work (0 : Int32) v_textSize v_place v_stations v_readStations v_doings v_seen v_seed v_wide v_up v_low r_page)) (va_runS (As := [.long (Int32.toInt64 x1), .long (1 : Int64), .long (9 : Int64)]) (rest := []) ⟨hx, hb, hml, hown, hts⟩ (m_X6_in l dC dI k H.size  (Int32.toInt64 x1) (1 : Int64) (9 : Int64) e2) (va_cwS 3 hts gX6_come_X6_in rfl rfl rfl (by decide +kernel) ⟨Nat.le_of_ble_eq_true rfl, Nat.le_of_ble_eq_true rfl⟩) (g_preS hG hP hD hS hA [] rfl (by decide)) rfl rfl hl.1 rfl (lv_room (Nat.le_of_ble_eq_true rfl)) dX6_come_11 ⟨Nat.le_of_ble_eq_true rfl, Nat.le_of_ble_eq_true rfl⟩) hP hD hS hA [] [0, 1] [0, 1] rfl rfl (by decide) (by decide) rfl (by decide) (fun H locs hP hD hS => ?_)
  refine lv_if_eq (tgt := 36) hx hb dX6_come_14 (by decide) (fun c3 => ?_) (fun c3 => ?_)
  · replace hm := ifp c3 hm
    refine lv_bipush (v := (-2 : Int32)) hx hb dX6_come_36 (by decide) ?_
    exact RET _ _ _ _ _ _ dX6_come_38 hm hP hD hS
  · replace hm := ifn c3 hm
    refine lv_aload_n hx hb dX6_come_17 rfl (lv_at hl 0 rfl) ?_
    refine lv_aload_n hx hb dX6_come_18 rfl (lv_at hl 0 rfl) ?_
    refine va_get (D := (dC, dI)) (ci := 6) (v := .ref n_page) (C := RX6) (T := TX6) (N := 28) hx hb hts hinX6 hown hG.1 hP 0 rfl rfl 7 (by decide) k2 (fun _ h9 => h9) rfl dX6_come_19 ?_
    refine lv_aload_n hx hb dX6_come_22 rfl (lv_at hl 0 rfl) ?_
    refine va_get (D := (dC, dI)) (ci := 6) (v := .ref n_page) (C := RX6) (T := TX6) (N := 28) hx hb hts hinX6 hown hG.1 hP 0 rfl rfl 7 (by decide) k2 (fun _ h9 => h9) rfl dX6_come_23 ?_
    obtain ⟨r4, e5, hm⟩ := bnd1_some hm
    refine g_calli (w2 := (wd_6d76fb k n_t n_text n_readPage n_page n_trial n_book n_kept n_isKept n_seenStation n_seenOther n_seenWide n_seenWas n_sines n_at n_column n_gram n_right n_work (0 : Int32) v_textSize v_place v_stations v_readStations v_doings v_seen v_seed v_wide v_up v_low r_page)) (va_runS (As := [.ref n_page]) (rest := [.ref n_page, .ref n_t]) ⟨hx, hb, hml, hown, hts⟩ (m_X6_openOnes l dC dI k H.size n_page r_page  e5) (va_cwS 1 hts gX6_come_X6_openOnes rfl rfl rfl (by decide +kernel) ⟨Nat.le_of_ble_eq_true rfl, Nat.le_of_ble_eq_true rfl⟩) (g_preS hG hP hD hS hA [1] rfl (by decide)) rfl rfl hl.1 rfl (lv_room (Nat.le_of_ble_eq_true rfl)) dX6_come_26 ⟨Nat.le_of_ble_eq_true rfl, Nat.le_of_ble_eq_true rfl⟩) hP hD hS hA [1] [0] [0, 1] rfl rfl (by decide) (by decide) rfl (by decide) (fun H locs hP hD hS => ?_)
    refine lv_iload_n hx hb dX6_come_29 rfl (lv_at hl 1 rfl) ?_
    obtain ⟨r6, e7, hm⟩ := bnd1_some hm
    refine g_calli (w2 := (wd_6d76fb k n_t n_text n_readPage n_page n_trial n_book n_kept n_isKept n_seenStation n_seenOther n_seenWide n_seenWas n_sines n_at n_column n_gram n_right n_work (0 : Int32) v_textSize v_place v_stations v_readStations v_doings v_seen v_seed v_wide v_up v_low r_page)) (va_runV (As := [.ref n_page, .int r4, .int x1]) (rest := []) ⟨hx, hb, hml, hown, hts⟩ (m_X6_reached l dC dI k F H.size n_t n_page n_text n_readPage n_page n_trial n_book n_kept n_isKept n_seenStation n_seenOther n_seenWide n_seenWas n_sines n_at n_column n_gram n_right n_work (0 : Int32) v_textSize v_place v_stations v_readStations v_doings v_seen v_seed v_wide v_up v_low r_page r4 x1 e7) (cwV 3 hts gX6_come_X6_reached rfl rfl rfl (by decide +kernel) ⟨Nat.le_of_ble_eq_true rfl, Nat.le_of_ble_eq_true rfl⟩) (g_preV hG hP hD hS hA [0, 1] rfl (by decide) (ci := 6) (q0 := 0) rfl rfl) rfl rfl hl.1 rfl (lv_room (Nat.le_of_ble_eq_true rfl)) dX6_come_30 ⟨Nat.le_of_ble_eq_true rfl, Nat.le_of_ble_eq_true rfl⟩) hP hD hS hA [0, 1] [] [0, 1] rfl rfl (by decide) (by decide) rfl (by decide) (fun H locs hP hD hS => ?_)
    refine lv_goto (tgt := 38) hx hb dX6_come_33 (by decide) ?_
    exact RET _ _ _ _ _ _ dX6_come_38 hm hP hD hS
set_option maxRecDepth 100000 in
theorem m_X6_come (l : Launch) (dC : Nat → ClassId) (dI : Nat → Nat → Nat) (k : Nat → ClassId) (F : Nat) (sz : Nat) (n_t n_text n_readPage n_page n_trial n_book n_kept n_isKept n_seenStation n_seenOther n_seenWide n_seenWas n_sines n_at n_column n_gram n_right n_work : Nat) (v_thrown : Int32) (v_textSize : Int32) (v_place : Int32) (v_stations : Int32) (v_readStations : Int32) (v_doings : Int32) (v_seen : Int32) (v_seed : Int64) (v_wide : Int32) (v_up : Int64) (v_low : Int64) (r_page : Nat → Int32) (x1 : Int32) {o_r : Int32} {o_v_thrown : (Int32)} (hm : f_X6_come F x1 v_thrown r_page = some (o_r, o_v_thrown)) : Met l yX6_come wsX6_come rm_X6_come (gPre dC dI k [.ref n_t, .int x1] sz (wd_6d76fb k n_t n_text n_readPage n_page n_trial n_book n_kept n_isKept n_seenStation n_seenOther n_seenWide n_seenWas n_sines n_at n_column n_gram n_right n_work v_thrown v_textSize v_place v_stations v_readStations v_doings v_seen v_seed v_wide v_up v_low r_page)) (gQI dC dI (va_A (wd_6d76fb k n_t n_text n_readPage n_page n_trial n_book n_kept n_isKept n_seenStation n_seenOther n_seenWide n_seenWas n_sines n_at n_column n_gram n_right n_work v_thrown v_textSize v_place v_stations v_readStations v_doings v_seen v_seed v_wide v_up v_low r_page) sz) o_r (wd_6d76fb k n_t n_text n_readPage n_page n_trial n_book n_kept n_isKept n_seenStation n_seenOther n_seenWide n_seenWas n_sines n_at n_column n_gram n_right n_work o_v_thrown v_textSize v_place v_stations v_readStations v_doings v_seen v_seed v_wide v_up v_low r_page)) 0 0 (va_A (wd_6d76fb k n_t n_text n_readPage n_page n_trial n_book n_kept n_isKept n_seenStation n_seenOther n_seenWide n_seenWas n_sines n_at n_column n_gram n_right n_work v_thrown v_textSize v_place v_stations v_readStations v_doings v_seen v_seed v_wide v_up v_low r_page) sz) := by
  refine g_entry (cc := cX6_come) (maxL := 2) (ret := (some .int)) (lv := [(0, .ref n_t), (1, .int x1)]) (by decide +kernel) rfl (Nat.le_of_ble_eq_true rfl) rfl (fun p e s m below meth c ls hx hb hr hml hts hown hlk hnm hsz hG hA hP hD hS hl => ?_)
  exact k_X6_come hx hb hml hts hown hG hA F n_t n_text n_readPage n_page n_trial n_book n_kept n_isKept n_seenStation n_seenOther n_seenWide n_seenWas n_sines n_at n_column n_gram n_right n_work v_thrown v_textSize v_place v_stations v_readStations v_doings v_seen v_seed v_wide v_up v_low r_page x1 o_r o_v_thrown (fun pc H locs ls v q_v_thrown hd ho hP hD hS => by cases ho; exact g_ireti hx hb hr hlk hP hD hS hd) s.heap [] ls hl hP hD hS hm
end
section
set_option maxHeartbeats 4000000 in
set_option maxRecDepth 100000 in
theorem k_X6_must {p : Program} {l : Launch} {e : Env} {s : State} {m : MethodId} {args : Array Value} {below : List Frame} {meth : Method} {c : Code} {A : Nat → Prop} {Q : State → Prop} {dC : Nat → ClassId} {dI : Nat → Nat → Nat} {k : Nat → ClassId} (hx : p.tables.exec = Jvm.exec) (hb : c.code = cX6_must) (hml : c.maxLocals = 5) (hts : ∀ w ∈ wsX6_must, w.before args s = true) (hown : s.vm.findClass RX6 = some m.cls) (hG : gK dC dI k A s) (hA : ∀ q : Nat, s.heap.size ≤ q → A q) (F : Nat) (n_t n_text n_readPage n_page n_trial n_book n_kept n_isKept n_seenStation n_seenOther n_seenWide n_seenWas n_sines n_at n_column n_gram n_right n_work : Nat) (v_thrown : Int32) (v_textSize : Int32) (v_place : Int32) (v_stations : Int32) (v_readStations : Int32) (v_doings : Int32) (v_seen : Int32) (v_seed : Int64) (v_wide : Int32) (v_up : Int64) (v_low : Int64) (r_page : Nat → Int32) (x1 : Int32) (o_r : Int32) (o_v_thrown : (Int32)) (RET : ∀ (pc : Nat) (H : Heap) (locs : List Loc) (ls : Array Slot) (v : Int32) (q_v_thrown : Int32), decode cX6_must pc = .ok (.ireturn, 1) → some (v, q_v_thrown) = some (o_r, o_v_thrown) → va_P (dC, dI) vwCl (wd_6d76fb k n_t n_text n_readPage n_page n_trial n_book n_kept n_isKept n_seenStation n_seenOther n_seenWide n_seenWas n_sines n_at n_column n_gram n_right n_work q_v_thrown v_textSize v_place v_stations v_readStations v_doings v_seen v_seed v_wide v_up v_low r_page) H → va_D A (wd_6d76fb k n_t n_text n_readPage n_page n_trial n_book n_kept n_isKept n_seenStation n_seenOther n_seenWide n_seenWas n_sines n_at n_column n_gram n_right n_work q_v_thrown v_textSize v_place v_stations v_readStations v_doings v_seen v_seed v_wide v_up v_low r_page) → va_S A s.heap H locs → W p l e rm_X6_must s m args below meth c H locs 0 0 Q (F0 m pc ls [.int v])) (H : Heap) (locs : List Loc) (ls : Array Slot) (hl : lv_has ls 5 [(0, .ref n_t), (1, .int x1)]) (hP : va_P (dC, dI) vwCl (wd_6d76fb k n_t n_text n_readPage n_page n_trial n_book n_kept n_isKept n_seenStation n_seenOther n_seenWide n_seenWas n_sines n_at n_column n_gram n_right n_work v_thrown v_textSize v_place v_stations v_readStations v_doings v_seen v_seed v_wide v_up v_low r_page) H) (hD : va_D A (wd_6d76fb k n_t n_text n_readPage n_page n_trial n_book n_kept n_isKept n_seenStation n_seenOther n_seenWide n_seenWas n_sines n_at n_column n_gram n_right n_work v_thrown v_textSize v_place v_stations v_readStations v_doings v_seen v_seed v_wide v_up v_low r_page)) (hS : va_S A s.heap H locs) (hm : f_X6_must F x1 v_thrown v_stations r_page = some (o_r, o_v_thrown)) : W p l e rm_X6_must s m args below meth c H locs 0 0 Q (F0 m 0 ls []) := by
  have hinX6 : ∀ w ∈ u_ws RX6 TX6 28, w ∈ wsX6_must := by decide +kernel
  have k0 := hts (.fieldLink RX6 20 "CaveLegsModel" "page" "[I") (by decide +kernel)
  have k1 := hts (.fieldLink RX6 67 "CaveLegsModel" "thrown" "I") (by decide +kernel)
  have L_46 : ∀ (n46 : Nat) (v_thrown : Int32) (x1 : Int32) (x2 : Int32) (x3 : Int32) (x4 : Int32) (H : Heap) (locs : List Loc) (ls : Array Slot), lv_has ls 5 [(0, .ref n_t), (1, .int x1), (2, .int x2), (3, .int x3), (4, .int x4)] → va_P (dC, dI) vwCl (wd_6d76fb k n_t n_text n_readPage n_page n_trial n_book n_kept n_isKept n_seenStation n_seenOther n_seenWide n_seenWas n_sines n_at n_column n_gram n_right n_work v_thrown v_textSize v_place v_stations v_readStations v_doings v_seen v_seed v_wide v_up v_low r_page) H → va_D A (wd_6d76fb k n_t n_text n_readPage n_page n_trial n_book n_kept n_isKept n_seenStation n_seenOther n_seenWide n_seenWas n_sines n_at n_column n_gram n_right n_work v_thrown v_textSize v_place v_stations v_readStations v_doings v_seen v_seed v_wide v_up v_low r_page) → va_S A s.heap H locs → f_X6_must_L46 F v_stations r_page n46 v_thrown x1 x2 x3 x4 = some (o_r, o_v_thrown) → W p l e rm_X6_must s m args below meth c H locs 0 0 Q (F0 m 46 ls []) := by
    intro n46
    induction n46 with
    | zero =>
      intro v_thrown x1 x2 x3 x4 H locs ls hl hP hD hS hm
      exact non_some hm
    | succ n46 ih46 =>
      have J_98 : ∀ (v_thrown : Int32) (x1 : Int32) (x2 : Int32) (x4 : Int32) (s0 : Int32) (s1 : Int32) (H : Heap) (locs : List Loc) (ls : Array Slot), lv_has ls 5 [(0, .ref n_t), (1, .int x1), (2, .int x2), (4, .int x4)] → va_P (dC, dI) vwCl (wd_6d76fb k n_t n_text n_readPage n_page n_trial n_book n_kept n_isKept n_seenStation n_seenOther n_seenWide n_seenWas n_sines n_at n_column n_gram n_right n_work v_thrown v_textSize v_place v_stations v_readStations v_doings v_seen v_seed v_wide v_up v_low r_page) H → va_D A (wd_6d76fb k n_t n_text n_readPage n_page n_trial n_book n_kept n_isKept n_seenStation n_seenOther n_seenWide n_seenWas n_sines n_at n_column n_gram n_right n_work v_thrown v_textSize v_place v_stations v_readStations v_doings v_seen v_seed v_wide v_up v_low r_page) → va_S A s.heap H locs → f_X6_must_J98 F v_stations r_page (f_X6_must_L46 F v_stations r_page n46) v_thrown x1 x2 x4 s0 s1 = some (o_r, o_v_thrown) → W p l e rm_X6_must s m args below meth c H locs 0 0 Q (F0 m 98 ls [.int s1, .int s0]) := by
        intro v_thrown x1 x2 x4 s0 s1 H locs ls hl hP hD hS hm
        unfold f_X6_must_J98 at hm
        refine lv_ior hx hb dX6_must_98 ?_
        refine lv_topi (fun t1 et1 => ?_)
        replace hm := (nmd_eq et1).trans hm
        refine lv_istore_n (lv' := [(3, .int t1), (0, .ref n_t), (1, .int x1), (2, .int x2), (4, .int x4)]) hx hb dX6_must_99 rfl hl (by decide) rfl (fun ls hl => ?_)
        obtain ⟨t2, et2⟩ : ∃ y : Int32, y = x4 + (1 : Int32) := ⟨_, rfl⟩
        replace hm := (nmd_eq et2).trans hm
        refine lv_iinc (v := t2) (lv' := [(4, .int t2), (3, .int t1), (0, .ref n_t), (1, .int x1), (2, .int x2)]) hx hb dX6_must_100 hl (k := 4) rfl (by rw [et2]; rfl) (by decide) rfl (fun ls hl => ?_)
        refine lv_goto (tgt := 46) hx hb dX6_must_103 (by decide) ?_
        exact ih46 _ _ _ _ _ _ _ _ (lv_sub hl [2, 3, 4, 1, 0] rfl) hP hD hS hm
      have J_97 : ∀ (v_thrown : Int32) (x1 : Int32) (x2 : Int32) (x4 : Int32) (s0 : Int32) (H : Heap) (locs : List Loc) (ls : Array Slot), lv_has ls 5 [(0, .ref n_t), (1, .int x1), (2, .int x2), (4, .int x4)] → va_P (dC, dI) vwCl (wd_6d76fb k n_t n_text n_readPage n_page n_trial n_book n_kept n_isKept n_seenStation n_seenOther n_seenWide n_seenWas n_sines n_at n_column n_gram n_right n_work v_thrown v_textSize v_place v_stations v_readStations v_doings v_seen v_seed v_wide v_up v_low r_page) H → va_D A (wd_6d76fb k n_t n_text n_readPage n_page n_trial n_book n_kept n_isKept n_seenStation n_seenOther n_seenWide n_seenWas n_sines n_at n_column n_gram n_right n_work v_thrown v_textSize v_place v_stations v_readStations v_doings v_seen v_seed v_wide v_up v_low r_page) → va_S A s.heap H locs → f_X6_must_J97 F v_stations r_page (f_X6_must_L46 F v_stations r_page n46) v_thrown x1 x2 x4 s0 = some (o_r, o_v_thrown) → W p l e rm_X6_must s m args below meth c H locs 0 0 Q (F0 m 97 ls [.int s0]) := by
        intro v_thrown x1 x2 x4 s0 H locs ls hl hP hD hS hm
        unfold f_X6_must_J97 at hm
        refine lv_iconst (v := (0 : Int32)) hx hb dX6_must_97 (by decide) ?_
        exact J_98 _ _ _ _ _ _ _ _ _ (lv_sub hl [0, 1, 2, 3] rfl) hP hD hS hm
      intro v_thrown x1 x2 x3 x4 H locs ls hl hP hD hS hm
      replace hm : f_X6_must_B46 F v_stations r_page (f_X6_must_L46 F v_stations r_page n46) v_thrown x1 x2 x3 x4 = some (o_r, o_v_thrown) := hm
      unfold f_X6_must_B46 at hm
      refine lv_iload hx hb dX6_must_46 (lv_at hl 4 rfl) ?_
      refine lv_aload_n hx hb dX6_must_48 rfl (lv_at hl 0 rfl) ?_
      refine va_get (D := (dC, dI)) (ci := 6) (v := .ref n_page) (C := RX6) (T := TX6) (N := 28) hx hb hts hinX6 hown hG.1 hP 0 rfl rfl 7 (by decide) k0 (fun _ h9 => h9) rfl dX6_must_49 ?_
      refine lv_iconst (v := (0 : Int32)) hx hb dX6_must_52 (by decide) ?_
      obtain ⟨hi3, hm⟩ := chk_some hm
      refine va_iald hx hb hG.1 hP 1 0 rfl rfl hi3 dX6_must_53 ?_
      refine lv_icmp_ge (tgt := 106) hx hb dX6_must_54 (by decide) (fun c4 => ?_) (fun c4 => ?_)
      · replace hm := ifp c4 hm
        refine lv_iload_n hx hb dX6_must_106 rfl (lv_at hl 3 rfl) ?_
        exact RET _ _ _ _ _ _ dX6_must_107 hm hP hD hS
      · replace hm := ifn c4 hm
        refine lv_iload_n hx hb dX6_must_57 rfl (lv_at hl 3 rfl) ?_
        refine lv_iload_n hx hb dX6_must_58 rfl (lv_at hl 2 rfl) ?_
        refine lv_iload hx hb dX6_must_59 (lv_at hl 4 rfl) ?_
        obtain ⟨r5, e6, hm⟩ := bnd1_some hm
        refine g_calli (w2 := (wd_6d76fb k n_t n_text n_readPage n_page n_trial n_book n_kept n_isKept n_seenStation n_seenOther n_seenWide n_seenWas n_sines n_at n_column n_gram n_right n_work v_thrown v_textSize v_place v_stations v_readStations v_doings v_seen v_seed v_wide v_up v_low r_page)) (va_runS (As := [.int x2, .int x4]) (rest := [.int x3]) ⟨hx, hb, hml, hown, hts⟩ (m_X6_has l dC dI k H.size  x2 x4 e6) (va_cwS 2 hts gX6_must_X6_has rfl rfl rfl (by decide +kernel) ⟨Nat.le_of_ble_eq_true rfl, Nat.le_of_ble_eq_true rfl⟩) (g_preS hG hP hD hS hA [] rfl (by decide)) rfl rfl hl.1 rfl (lv_room (Nat.le_of_ble_eq_true rfl)) dX6_must_61 ⟨Nat.le_of_ble_eq_true rfl, Nat.le_of_ble_eq_true rfl⟩) hP hD hS hA [] [0, 1] [0, 1] rfl rfl (by decide) (by decide) rfl (by decide) (fun H locs hP hD hS => ?_)
        refine lv_if_eq (tgt := 97) hx hb dX6_must_64 (by decide) (fun c7 => ?_) (fun c7 => ?_)
        · replace hm := ifp c7 hm
          exact J_97 _ _ _ _ _ _ _ _ (lv_sub hl [0, 1, 2, 4] rfl) hP hD hS hm
        · replace hm := ifn c7 hm
          refine lv_aload_n hx hb dX6_must_67 rfl (lv_at hl 0 rfl) ?_
          refine lv_aload_n hx hb dX6_must_68 rfl (lv_at hl 0 rfl) ?_
          refine va_get (D := (dC, dI)) (ci := 6) (v := .ref n_page) (C := RX6) (T := TX6) (N := 28) hx hb hts hinX6 hown hG.1 hP 0 rfl rfl 7 (by decide) k0 (fun _ h9 => h9) rfl dX6_must_69 ?_
          refine lv_iload_n hx hb dX6_must_72 rfl (lv_at hl 2 rfl) ?_
          refine lv_iconst (v := (1 : Int32)) hx hb dX6_must_73 (by decide) ?_
          refine lv_iload hx hb dX6_must_74 (lv_at hl 4 rfl) ?_
          refine g_ishl hx hb dX6_must_76 ?_
          refine lv_iconst (v := (-1 : Int32)) hx hb dX6_must_77 (by decide) ?_
          refine lv_ixor hx hb dX6_must_78 ?_
          refine lv_iand hx hb dX6_must_79 ?_
          obtain ⟨r8, e9, hm⟩ := bnd1_some hm
          refine g_calli (w2 := (wd_6d76fb k n_t n_text n_readPage n_page n_trial n_book n_kept n_isKept n_seenStation n_seenOther n_seenWide n_seenWas n_sines n_at n_column n_gram n_right n_work v_thrown v_textSize v_place v_stations v_readStations v_doings v_seen v_seed v_wide v_up v_low r_page)) (va_runV (As := [.ref n_page, .int (x2 &&& ((shlI (1 : Int32) x4) ^^^ (-1 : Int32)))]) (rest := [.int x3]) ⟨hx, hb, hml, hown, hts⟩ (m_X6_tiedBy l dC dI k F H.size n_t n_page n_text n_readPage n_page n_trial n_book n_kept n_isKept n_seenStation n_seenOther n_seenWide n_seenWas n_sines n_at n_column n_gram n_right n_work v_thrown v_textSize v_place v_stations v_readStations v_doings v_seen v_seed v_wide v_up v_low r_page (x2 &&& ((shlI (1 : Int32) x4) ^^^ (-1 : Int32))) e9) (cwV 2 hts gX6_must_X6_tiedBy rfl rfl rfl (by decide +kernel) ⟨Nat.le_of_ble_eq_true rfl, Nat.le_of_ble_eq_true rfl⟩) (g_preV hG hP hD hS hA [0, 1] rfl (by decide) (ci := 6) (q0 := 0) rfl rfl) rfl rfl hl.1 rfl (lv_room (Nat.le_of_ble_eq_true rfl)) dX6_must_80 ⟨Nat.le_of_ble_eq_true rfl, Nat.le_of_ble_eq_true rfl⟩) hP hD hS hA [0, 1] [] [0, 1] rfl rfl (by decide) (by decide) rfl (by decide) (fun H locs hP hD hS => ?_)
          refine lv_iload_n hx hb dX6_must_83 rfl (lv_at hl 1 rfl) ?_
          obtain ⟨r10, e11, hm⟩ := bnd1_some hm
          refine g_calli (w2 := (wd_6d76fb k n_t n_text n_readPage n_page n_trial n_book n_kept n_isKept n_seenStation n_seenOther n_seenWide n_seenWas n_sines n_at n_column n_gram n_right n_work v_thrown v_textSize v_place v_stations v_readStations v_doings v_seen v_seed v_wide v_up v_low r_page)) (va_runS (As := [.int r8, .int x1]) (rest := [.int x3]) ⟨hx, hb, hml, hown, hts⟩ (m_X6_has l dC dI k H.size  r8 x1 e11) (va_cwS 2 hts gX6_must_X6_has rfl rfl rfl (by decide +kernel) ⟨Nat.le_of_ble_eq_true rfl, Nat.le_of_ble_eq_true rfl⟩) (g_preS hG hP hD hS hA [] rfl (by decide)) rfl rfl hl.1 rfl (lv_room (Nat.le_of_ble_eq_true rfl)) dX6_must_84 ⟨Nat.le_of_ble_eq_true rfl, Nat.le_of_ble_eq_true rfl⟩) hP hD hS hA [] [0, 1] [0, 1] rfl rfl (by decide) (by decide) rfl (by decide) (fun H locs hP hD hS => ?_)
          refine lv_if_ne (tgt := 97) hx hb dX6_must_87 (by decide) (fun c12 => ?_) (fun c12 => ?_)
          · replace hm := ifn c12 hm
            exact J_97 _ _ _ _ _ _ _ _ (lv_sub hl [0, 1, 2, 4] rfl) hP hD hS hm
          · replace hm := ifp c12 hm
            refine lv_iconst (v := (1 : Int32)) hx hb dX6_must_90 (by decide) ?_
            refine lv_iload hx hb dX6_must_91 (lv_at hl 4 rfl) ?_
            refine g_ishl hx hb dX6_must_93 ?_
            refine lv_goto (tgt := 98) hx hb dX6_must_94 (by decide) ?_
            exact J_98 _ _ _ _ _ _ _ _ _ (lv_sub hl [0, 1, 2, 4] rfl) hP hD hS hm
  unfold f_X6_must at hm
  refine lv_aload_n hx hb dX6_must_0 rfl (lv_at hl 0 rfl) ?_
  refine lv_iconst (v := (0 : Int32)) hx hb dX6_must_1 (by decide) ?_
  refine va_put (D := (dC, dI)) (ci := 6) (v := .int (0 : Int32)) (ty := .int) (C := RX6) (T := TX6) (N := 28) hx hb hts hinX6 tyX6 tyX6_ok nmX6 hown hG.1 hP hD hS 0 rfl rfl 0 (by decide) k1 (fun _ h9 => h9) rfl (by decide +kernel) rfl rfl (Nat.le_of_ble_eq_true rfl) dX6_must_2 (fun H locs hP hD hS => ?_)
  replace hP : va_P (dC, dI) vwCl (wd_6d76fb k n_t n_text n_readPage n_page n_trial n_book n_kept n_isKept n_seenStation n_seenOther n_seenWide n_seenWas n_sines n_at n_column n_gram n_right n_work (0 : Int32) v_textSize v_place v_stations v_readStations v_doings v_seen v_seed v_wide v_up v_low r_page) H := hP
  replace hD : va_D A (wd_6d76fb k n_t n_text n_readPage n_page n_trial n_book n_kept n_isKept n_seenStation n_seenOther n_seenWide n_seenWas n_sines n_at n_column n_gram n_right n_work (0 : Int32) v_textSize v_place v_stations v_readStations v_doings v_seen v_seed v_wide v_up v_low r_page) := hD
  refine lv_aload_n hx hb dX6_must_5 rfl (lv_at hl 0 rfl) ?_
  refine lv_iload_n hx hb dX6_must_6 rfl (lv_at hl 1 rfl) ?_
  obtain ⟨r13, e14, hm⟩ := bnd1_some hm
  refine g_calli (w2 := (wd_6d76fb k n_t n_text n_readPage n_page n_trial n_book n_kept n_isKept n_seenStation n_seenOther n_seenWide n_seenWas n_sines n_at n_column n_gram n_right n_work (0 : Int32) v_textSize v_place v_stations v_readStations v_doings v_seen v_seed v_wide v_up v_low r_page)) (va_runV (As := [.int x1]) (rest := []) ⟨hx, hb, hml, hown, hts⟩ (m_X6_noStation l dC dI k H.size n_t n_text n_readPage n_page n_trial n_book n_kept n_isKept n_seenStation n_seenOther n_seenWide n_seenWas n_sines n_at n_column n_gram n_right n_work (0 : Int32) v_textSize v_place v_stations v_readStations v_doings v_seen v_seed v_wide v_up v_low x1 e14) (cwV 1 hts gX6_must_X6_noStation rfl rfl rfl (by decide +kernel) ⟨Nat.le_of_ble_eq_true rfl, Nat.le_of_ble_eq_true rfl⟩) (g_preV hG hP hD hS hA [0] rfl (by decide) (ci := 6) (q0 := 0) rfl rfl) rfl rfl hl.1 rfl (lv_room (Nat.le_of_ble_eq_true rfl)) dX6_must_7 ⟨Nat.le_of_ble_eq_true rfl, Nat.le_of_ble_eq_true rfl⟩) hP hD hS hA [0] [1] [1, 0] rfl rfl (by decide) (by decide) rfl (by decide) (fun H locs hP hD hS => ?_)
  refine lv_if_eq (tgt := 15) hx hb dX6_must_10 (by decide) (fun c15 => ?_) (fun c15 => ?_)
  · replace hm := ifp c15 hm
    refine lv_aload_n hx hb dX6_must_15 rfl (lv_at hl 0 rfl) ?_
    refine va_get (D := (dC, dI)) (ci := 6) (v := .ref n_page) (C := RX6) (T := TX6) (N := 28) hx hb hts hinX6 hown hG.1 hP 0 rfl rfl 7 (by decide) k0 (fun _ h9 => h9) rfl dX6_must_16 ?_
    obtain ⟨r16, e17, hm⟩ := bnd1_some hm
    refine g_calli (w2 := (wd_6d76fb k n_t n_text n_readPage n_page n_trial n_book n_kept n_isKept n_seenStation n_seenOther n_seenWide n_seenWas n_sines n_at n_column n_gram n_right n_work (0 : Int32) v_textSize v_place v_stations v_readStations v_doings v_seen v_seed v_wide v_up v_low r_page)) (va_runS (As := [.ref n_page]) (rest := []) ⟨hx, hb, hml, hown, hts⟩ (m_X6_openOnes l dC dI k H.size n_page r_page  e17) (va_cwS 1 hts gX6_must_X6_openOnes rfl rfl rfl (by decide +kernel) ⟨Nat.le_of_ble_eq_true rfl, Nat.le_of_ble_eq_true rfl⟩) (g_preS hG hP hD hS hA [1] rfl (by decide)) rfl rfl hl.1 rfl (lv_room (Nat.le_of_ble_eq_true rfl)) dX6_must_19 ⟨Nat.le_of_ble_eq_true rfl, Nat.le_of_ble_eq_true rfl⟩) hP hD hS hA [1] [0] [0, 1] rfl rfl (by decide) (by decide) rfl (by decide) (fun H locs hP hD hS => ?_)
    refine lv_istore_n (lv' := [(2, .int r16), (0, .ref n_t), (1, .int x1)]) hx hb dX6_must_22 rfl hl (by decide) rfl (fun ls hl => ?_)
    refine lv_aload_n hx hb dX6_must_23 rfl (lv_at hl 1 rfl) ?_
    refine lv_aload_n hx hb dX6_must_24 rfl (lv_at hl 1 rfl) ?_
    refine va_get (D := (dC, dI)) (ci := 6) (v := .ref n_page) (C := RX6) (T := TX6) (N := 28) hx hb hts hinX6 hown hG.1 hP 0 rfl rfl 7 (by decide) k0 (fun _ h9 => h9) rfl dX6_must_25 ?_
    refine lv_iload_n hx hb dX6_must_28 rfl (lv_at hl 0 rfl) ?_
    obtain ⟨r18, e19, hm⟩ := bnd1_some hm
    refine g_calli (w2 := (wd_6d76fb k n_t n_text n_readPage n_page n_trial n_book n_kept n_isKept n_seenStation n_seenOther n_seenWide n_seenWas n_sines n_at n_column n_gram n_right n_work (0 : Int32) v_textSize v_place v_stations v_readStations v_doings v_seen v_seed v_wide v_up v_low r_page)) (va_runV (As := [.ref n_page, .int r16]) (rest := []) ⟨hx, hb, hml, hown, hts⟩ (m_X6_tiedBy l dC dI k F H.size n_t n_page n_text n_readPage n_page n_trial n_book n_kept n_isKept n_seenStation n_seenOther n_seenWide n_seenWas n_sines n_at n_column n_gram n_right n_work (0 : Int32) v_textSize v_place v_stations v_readStations v_doings v_seen v_seed v_wide v_up v_low r_page r16 e19) (cwV 2 hts gX6_must_X6_tiedBy rfl rfl rfl (by decide +kernel) ⟨Nat.le_of_ble_eq_true rfl, Nat.le_of_ble_eq_true rfl⟩) (g_preV hG hP hD hS hA [0, 1] rfl (by decide) (ci := 6) (q0 := 0) rfl rfl) rfl rfl hl.1 rfl (lv_room (Nat.le_of_ble_eq_true rfl)) dX6_must_29 ⟨Nat.le_of_ble_eq_true rfl, Nat.le_of_ble_eq_true rfl⟩) hP hD hS hA [0, 1] [] [0, 1] rfl rfl (by decide) (by decide) rfl (by decide) (fun H locs hP hD hS => ?_)
    refine lv_iload_n hx hb dX6_must_32 rfl (lv_at hl 2 rfl) ?_
    obtain ⟨r20, e21, hm⟩ := bnd1_some hm
    refine g_calli (w2 := (wd_6d76fb k n_t n_text n_readPage n_page n_trial n_book n_kept n_isKept n_seenStation n_seenOther n_seenWide n_seenWas n_sines n_at n_column n_gram n_right n_work (0 : Int32) v_textSize v_place v_stations v_readStations v_doings v_seen v_seed v_wide v_up v_low r_page)) (va_runS (As := [.int r18, .int x1]) (rest := []) ⟨hx, hb, hml, hown, hts⟩ (m_X6_has l dC dI k H.size  r18 x1 e21) (va_cwS 2 hts gX6_must_X6_has rfl rfl rfl (by decide +kernel) ⟨Nat.le_of_ble_eq_true rfl, Nat.le_of_ble_eq_true rfl⟩) (g_preS hG hP hD hS hA [] rfl (by decide)) rfl rfl hl.1 rfl (lv_room (Nat.le_of_ble_eq_true rfl)) dX6_must_33 ⟨Nat.le_of_ble_eq_true rfl, Nat.le_of_ble_eq_true rfl⟩) hP hD hS hA [] [0, 1] [0, 1] rfl rfl (by decide) (by decide) rfl (by decide) (fun H locs hP hD hS => ?_)
    refine lv_if_ne (tgt := 41) hx hb dX6_must_36 (by decide) (fun c22 => ?_) (fun c22 => ?_)
    · replace hm := ifn c22 hm
      refine lv_iconst (v := (0 : Int32)) hx hb dX6_must_41 (by decide) ?_
      refine lv_istore_n (lv' := [(3, .int (0 : Int32)), (2, .int r16), (0, .ref n_t), (1, .int x1)]) hx hb dX6_must_42 rfl hl (by decide) rfl (fun ls hl => ?_)
      refine lv_iconst (v := (0 : Int32)) hx hb dX6_must_43 (by decide) ?_
      refine lv_istore (lv' := [(4, .int (0 : Int32)), (3, .int (0 : Int32)), (2, .int r16), (0, .ref n_t), (1, .int x1)]) hx hb dX6_must_44 hl (by decide) rfl (fun ls hl => ?_)
      exact L_46 F _ _ _ _ _ _ _ _ (lv_sub hl [3, 4, 2, 1, 0] rfl) hP hD hS hm
    · replace hm := ifp c22 hm
      refine lv_iconst (v := (0 : Int32)) hx hb dX6_must_39 (by decide) ?_
      exact RET _ _ _ _ _ _ dX6_must_40 hm hP hD hS
  · replace hm := ifn c15 hm
    refine lv_iconst (v := (-1 : Int32)) hx hb dX6_must_13 (by decide) ?_
    exact RET _ _ _ _ _ _ dX6_must_14 hm hP hD hS
set_option maxRecDepth 100000 in
theorem m_X6_must (l : Launch) (dC : Nat → ClassId) (dI : Nat → Nat → Nat) (k : Nat → ClassId) (F : Nat) (sz : Nat) (n_t n_text n_readPage n_page n_trial n_book n_kept n_isKept n_seenStation n_seenOther n_seenWide n_seenWas n_sines n_at n_column n_gram n_right n_work : Nat) (v_thrown : Int32) (v_textSize : Int32) (v_place : Int32) (v_stations : Int32) (v_readStations : Int32) (v_doings : Int32) (v_seen : Int32) (v_seed : Int64) (v_wide : Int32) (v_up : Int64) (v_low : Int64) (r_page : Nat → Int32) (x1 : Int32) {o_r : Int32} {o_v_thrown : (Int32)} (hm : f_X6_must F x1 v_thrown v_stations r_page = some (o_r, o_v_thrown)) : Met l yX6_must wsX6_must rm_X6_must (gPre dC dI k [.ref n_t, .int x1] sz (wd_6d76fb k n_t n_text n_readPage n_page n_trial n_book n_kept n_isKept n_seenStation n_seenOther n_seenWide n_seenWas n_sines n_at n_column n_gram n_right n_work v_thrown v_textSize v_place v_stations v_readStations v_doings v_seen v_seed v_wide v_up v_low r_page)) (gQI dC dI (va_A (wd_6d76fb k n_t n_text n_readPage n_page n_trial n_book n_kept n_isKept n_seenStation n_seenOther n_seenWide n_seenWas n_sines n_at n_column n_gram n_right n_work v_thrown v_textSize v_place v_stations v_readStations v_doings v_seen v_seed v_wide v_up v_low r_page) sz) o_r (wd_6d76fb k n_t n_text n_readPage n_page n_trial n_book n_kept n_isKept n_seenStation n_seenOther n_seenWide n_seenWas n_sines n_at n_column n_gram n_right n_work o_v_thrown v_textSize v_place v_stations v_readStations v_doings v_seen v_seed v_wide v_up v_low r_page)) 0 0 (va_A (wd_6d76fb k n_t n_text n_readPage n_page n_trial n_book n_kept n_isKept n_seenStation n_seenOther n_seenWide n_seenWas n_sines n_at n_column n_gram n_right n_work v_thrown v_textSize v_place v_stations v_readStations v_doings v_seen v_seed v_wide v_up v_low r_page) sz) := by
  refine g_entry (cc := cX6_must) (maxL := 5) (ret := (some .int)) (lv := [(0, .ref n_t), (1, .int x1)]) (by decide +kernel) rfl (Nat.le_of_ble_eq_true rfl) rfl (fun p e s m below meth c ls hx hb hr hml hts hown hlk hnm hsz hG hA hP hD hS hl => ?_)
  exact k_X6_must hx hb hml hts hown hG hA F n_t n_text n_readPage n_page n_trial n_book n_kept n_isKept n_seenStation n_seenOther n_seenWide n_seenWas n_sines n_at n_column n_gram n_right n_work v_thrown v_textSize v_place v_stations v_readStations v_doings v_seen v_seed v_wide v_up v_low r_page x1 o_r o_v_thrown (fun pc H locs ls v q_v_thrown hd ho hP hD hS => by cases ho; exact g_ireti hx hb hr hlk hP hD hS hd) s.heap [] ls hl hP hD hS hm
end
section
set_option maxHeartbeats 4000000 in
set_option maxRecDepth 100000 in
theorem k_X6_closes {p : Program} {l : Launch} {e : Env} {s : State} {m : MethodId} {args : Array Value} {below : List Frame} {meth : Method} {c : Code} {A : Nat → Prop} {Q : State → Prop} {dC : Nat → ClassId} {dI : Nat → Nat → Nat} {k : Nat → ClassId} (hx : p.tables.exec = Jvm.exec) (hb : c.code = cX6_closes) (hml : c.maxLocals = 3) (hts : ∀ w ∈ wsX6_closes, w.before args s = true) (hown : s.vm.findClass RX6 = some m.cls) (hG : gK dC dI k A s) (hA : ∀ q : Nat, s.heap.size ≤ q → A q) (F : Nat) (n_t n_p1 n_text n_readPage n_page n_trial n_book n_kept n_isKept n_seenStation n_seenOther n_seenWide n_seenWas n_sines n_at n_column n_gram n_right n_work : Nat) (v_thrown : Int32) (v_textSize : Int32) (v_place : Int32) (v_stations : Int32) (v_readStations : Int32) (v_doings : Int32) (v_seen : Int32) (v_seed : Int64) (v_wide : Int32) (v_up : Int64) (v_low : Int64) (r_sines : Nat → Int32) (r_at : Nat → Int32) (r_p1 : Nat → Int32) (x2 : Int32) (o_r : Int32) (o_r_at : (Nat → Int32)) (RET : ∀ (pc : Nat) (H : Heap) (locs : List Loc) (ls : Array Slot) (v : Int32) (q_r_at : Nat → Int32), decode cX6_closes pc = .ok (.ireturn, 1) → some (v, q_r_at) = some (o_r, o_r_at) → narrow .boolean (.int v) = .int v → va_P (dC, dI) vwCl (wd_4da35a k n_t n_p1 n_text n_readPage n_page n_trial n_book n_kept n_isKept n_seenStation n_seenOther n_seenWide n_seenWas n_sines n_at n_column n_gram n_right n_work v_thrown v_textSize v_place v_stations v_readStations v_doings v_seen v_seed v_wide v_up v_low r_sines q_r_at r_p1) H → va_D A (wd_4da35a k n_t n_p1 n_text n_readPage n_page n_trial n_book n_kept n_isKept n_seenStation n_seenOther n_seenWide n_seenWas n_sines n_at n_column n_gram n_right n_work v_thrown v_textSize v_place v_stations v_readStations v_doings v_seen v_seed v_wide v_up v_low r_sines q_r_at r_p1) → va_S A s.heap H locs → W p l e rm_X6_closes s m args below meth c H locs 0 0 Q (F0 m pc ls [.int v])) (H : Heap) (locs : List Loc) (ls : Array Slot) (hl : lv_has ls 3 [(0, .ref n_t), (1, .ref n_p1), (2, .int x2)]) (hP : va_P (dC, dI) vwCl (wd_4da35a k n_t n_p1 n_text n_readPage n_page n_trial n_book n_kept n_isKept n_seenStation n_seenOther n_seenWide n_seenWas n_sines n_at n_column n_gram n_right n_work v_thrown v_textSize v_place v_stations v_readStations v_doings v_seen v_seed v_wide v_up v_low r_sines r_at r_p1) H) (hD : va_D A (wd_4da35a k n_t n_p1 n_text n_readPage n_page n_trial n_book n_kept n_isKept n_seenStation n_seenOther n_seenWide n_seenWas n_sines n_at n_column n_gram n_right n_work v_thrown v_textSize v_place v_stations v_readStations v_doings v_seen v_seed v_wide v_up v_low r_sines r_at r_p1)) (hS : va_S A s.heap H locs) (hm : f_X6_closes F x2 r_sines r_at r_p1 = some (o_r, o_r_at)) : W p l e rm_X6_closes s m args below meth c H locs 0 0 Q (F0 m 0 ls []) := by
  unfold f_X6_closes at hm
  refine lv_aload_n hx hb dX6_closes_0 rfl (lv_at hl 0 rfl) ?_
  refine lv_aload_n hx hb dX6_closes_1 rfl (lv_at hl 1 rfl) ?_
  refine lv_iload_n hx hb dX6_closes_2 rfl (lv_at hl 2 rfl) ?_
  refine lv_aload_n hx hb dX6_closes_3 rfl (lv_at hl 0 rfl) ?_
  refine lv_aload_n hx hb dX6_closes_4 rfl (lv_at hl 1 rfl) ?_
  refine lv_aload_n hx hb dX6_closes_5 rfl (lv_at hl 1 rfl) ?_
  obtain ⟨r1, e2, hm⟩ := bnd1_some hm
  refine g_calli (w2 := (wd_4da35a k n_t n_p1 n_text n_readPage n_page n_trial n_book n_kept n_isKept n_seenStation n_seenOther n_seenWide n_seenWas n_sines n_at n_column n_gram n_right n_work v_thrown v_textSize v_place v_stations v_readStations v_doings v_seen v_seed v_wide v_up v_low r_sines r_at r_p1)) (va_runS (As := [.ref n_p1]) (rest := [.ref n_p1, .ref n_t, .int x2, .ref n_p1, .ref n_t]) ⟨hx, hb, hml, hown, hts⟩ (m_X6_all l dC dI k H.size n_p1 r_p1  e2) (va_cwS 1 hts gX6_closes_X6_all rfl rfl rfl (by decide +kernel) ⟨Nat.le_of_ble_eq_true rfl, Nat.le_of_ble_eq_true rfl⟩) (g_preS hG hP hD hS hA [3] rfl (by decide)) rfl rfl hl.1 rfl (lv_room (Nat.le_of_ble_eq_true rfl)) dX6_closes_6 ⟨Nat.le_of_ble_eq_true rfl, Nat.le_of_ble_eq_true rfl⟩) hP hD hS hA [3] [0, 1, 2] [0, 1, 2, 3] rfl rfl (by decide) (by decide) rfl (by decide) (fun H locs hP hD hS => ?_)
  obtain ⟨r3, e4, hm⟩ := bnd1_some hm
  refine g_calli (w2 := (wd_4da35a k n_t n_p1 n_text n_readPage n_page n_trial n_book n_kept n_isKept n_seenStation n_seenOther n_seenWide n_seenWas n_sines n_at n_column n_gram n_right n_work v_thrown v_textSize v_place v_stations v_readStations v_doings v_seen v_seed v_wide v_up v_low r_sines r_at r_p1)) (va_runV (As := [.ref n_p1, .int r1]) (rest := [.int x2, .ref n_p1, .ref n_t]) ⟨hx, hb, hml, hown, hts⟩ (m_X6_tiedBy l dC dI k F H.size n_t n_p1 n_text n_readPage n_page n_trial n_book n_kept n_isKept n_seenStation n_seenOther n_seenWide n_seenWas n_sines n_at n_column n_gram n_right n_work v_thrown v_textSize v_place v_stations v_readStations v_doings v_seen v_seed v_wide v_up v_low r_p1 r1 e4) (cwV 2 hts gX6_closes_X6_tiedBy rfl rfl rfl (by decide +kernel) ⟨Nat.le_of_ble_eq_true rfl, Nat.le_of_ble_eq_true rfl⟩) (g_preV hG hP hD hS hA [0, 3] rfl (by decide) (ci := 6) (q0 := 0) rfl rfl) rfl rfl hl.1 rfl (lv_room (Nat.le_of_ble_eq_true rfl)) dX6_closes_9 ⟨Nat.le_of_ble_eq_true rfl, Nat.le_of_ble_eq_true rfl⟩) hP hD hS hA [0, 3] [1, 2] [2, 0, 1, 3] rfl rfl (by decide) (by decide) rfl (by decide) (fun H locs hP hD hS => ?_)
  obtain ⟨r5, e6, hm⟩ := bnd1_some hm
  refine g_calli (w2 := (wd_4da35a k n_t n_p1 n_text n_readPage n_page n_trial n_book n_kept n_isKept n_seenStation n_seenOther n_seenWide n_seenWas n_sines n_at n_column n_gram n_right n_work v_thrown v_textSize v_place v_stations v_readStations v_doings v_seen v_seed v_wide v_up v_low r_sines r_at r_p1)) (va_runV (As := [.ref n_p1, .int x2, .int r3]) (rest := []) ⟨hx, hb, hml, hown, hts⟩ (m_X6_isTiedLeg l dC dI k H.size n_t n_p1 n_text n_readPage n_page n_trial n_book n_kept n_isKept n_seenStation n_seenOther n_seenWide n_seenWas n_sines n_at n_column n_gram n_right n_work v_thrown v_textSize v_place v_stations v_readStations v_doings v_seen v_seed v_wide v_up v_low r_p1 x2 r3 e6) (cwV 3 hts gX6_closes_X6_isTiedLeg rfl rfl rfl (by decide +kernel) ⟨Nat.le_of_ble_eq_true rfl, Nat.le_of_ble_eq_true rfl⟩) (g_preV hG hP hD hS hA [0, 3] rfl (by decide) (ci := 6) (q0 := 0) rfl rfl) rfl rfl hl.1 rfl (lv_room (Nat.le_of_ble_eq_true rfl)) dX6_closes_12 ⟨Nat.le_of_ble_eq_true rfl, Nat.le_of_ble_eq_true rfl⟩) hP hD hS hA [0, 3] [1, 2] [2, 0, 1, 3] rfl rfl (by decide) (by decide) rfl (by decide) (fun H locs hP hD hS => ?_)
  refine lv_if_ne (tgt := 20) hx hb dX6_closes_15 (by decide) (fun c7 => ?_) (fun c7 => ?_)
  · replace hm := ifn c7 hm
    refine lv_aload_n hx hb dX6_closes_20 rfl (lv_at hl 0 rfl) ?_
    refine lv_aload_n hx hb dX6_closes_21 rfl (lv_at hl 1 rfl) ?_
    obtain ⟨w8, e9, hm⟩ := bnd1_some hm
    refine g_callv (w2 := (wd_4da35a k n_t n_p1 n_text n_readPage n_page n_trial n_book n_kept n_isKept n_seenStation n_seenOther n_seenWide n_seenWas n_sines n_at n_column n_gram n_right n_work v_thrown v_textSize v_place v_stations v_readStations v_doings v_seen v_seed v_wide v_up v_low r_sines w8 r_p1)) (va_runV (As := [.ref n_p1]) (rest := []) ⟨hx, hb, hml, hown, hts⟩ (m_X6_layOut l dC dI k F H.size n_t n_p1 n_text n_readPage n_page n_trial n_book n_kept n_isKept n_seenStation n_seenOther n_seenWide n_seenWas n_sines n_at n_column n_gram n_right n_work v_thrown v_textSize v_place v_stations v_readStations v_doings v_seen v_seed v_wide v_up v_low r_sines r_at r_p1  e9) (cwV 1 hts gX6_closes_X6_layOut rfl rfl rfl (by decide +kernel) ⟨Nat.le_of_ble_eq_true rfl, Nat.le_of_ble_eq_true rfl⟩) (g_preV hG hP hD hS hA [0, 1, 2, 3] rfl (by decide) (ci := 6) (q0 := 0) rfl rfl) rfl rfl hl.1 rfl (lv_room (Nat.le_of_ble_eq_true rfl)) dX6_closes_22 ⟨Nat.le_of_ble_eq_true rfl, Nat.le_of_ble_eq_true rfl⟩) hP hD hS hA [0, 1, 2, 3] [] [0, 1, 2, 3] rfl rfl (by decide) (by decide) rfl (by decide) (fun H locs hP hD hS => ?_)
    refine lv_aload_n hx hb dX6_closes_25 rfl (lv_at hl 0 rfl) ?_
    refine lv_aload_n hx hb dX6_closes_26 rfl (lv_at hl 1 rfl) ?_
    refine lv_iload_n hx hb dX6_closes_27 rfl (lv_at hl 2 rfl) ?_
    refine lv_iconst (v := (0 : Int32)) hx hb dX6_closes_28 (by decide) ?_
    obtain ⟨r10, e11, hm⟩ := bnd1_some hm
    refine g_calli (w2 := (wd_4da35a k n_t n_p1 n_text n_readPage n_page n_trial n_book n_kept n_isKept n_seenStation n_seenOther n_seenWide n_seenWas n_sines n_at n_column n_gram n_right n_work v_thrown v_textSize v_place v_stations v_readStations v_doings v_seen v_seed v_wide v_up v_low r_sines w8 r_p1)) (va_runV (As := [.ref n_p1, .int x2, .int (0 : Int32)]) (rest := []) ⟨hx, hb, hml, hown, hts⟩ (m_X6_missOf l dC dI k H.size n_t n_p1 n_text n_readPage n_page n_trial n_book n_kept n_isKept n_seenStation n_seenOther n_seenWide n_seenWas n_sines n_at n_column n_gram n_right n_work v_thrown v_textSize v_place v_stations v_readStations v_doings v_seen v_seed v_wide v_up v_low r_sines w8 r_p1 x2 (0 : Int32) e11) (cwV 3 hts gX6_closes_X6_missOf rfl rfl rfl (by decide +kernel) ⟨Nat.le_of_ble_eq_true rfl, Nat.le_of_ble_eq_true rfl⟩) (g_preV hG hP hD hS hA [0, 1, 2, 3] rfl (by decide) (ci := 6) (q0 := 0) rfl rfl) rfl rfl hl.1 rfl (lv_room (Nat.le_of_ble_eq_true rfl)) dX6_closes_29 ⟨Nat.le_of_ble_eq_true rfl, Nat.le_of_ble_eq_true rfl⟩) hP hD hS hA [0, 1, 2, 3] [] [0, 1, 2, 3] rfl rfl (by decide) (by decide) rfl (by decide) (fun H locs hP hD hS => ?_)
    refine lv_if_ne (tgt := 59) hx hb dX6_closes_32 (by decide) (fun c12 => ?_) (fun c12 => ?_)
    · replace hm := ifn c12 hm
      refine lv_iconst (v := (0 : Int32)) hx hb dX6_closes_59 (by decide) ?_
      exact RET _ _ _ _ _ _ dX6_closes_60 hm (by decide +kernel) hP hD hS
    · replace hm := ifp c12 hm
      refine lv_aload_n hx hb dX6_closes_35 rfl (lv_at hl 0 rfl) ?_
      refine lv_aload_n hx hb dX6_closes_36 rfl (lv_at hl 1 rfl) ?_
      refine lv_iload_n hx hb dX6_closes_37 rfl (lv_at hl 2 rfl) ?_
      refine lv_iconst (v := (1 : Int32)) hx hb dX6_closes_38 (by decide) ?_
      obtain ⟨r13, e14, hm⟩ := bnd1_some hm
      refine g_calli (w2 := (wd_4da35a k n_t n_p1 n_text n_readPage n_page n_trial n_book n_kept n_isKept n_seenStation n_seenOther n_seenWide n_seenWas n_sines n_at n_column n_gram n_right n_work v_thrown v_textSize v_place v_stations v_readStations v_doings v_seen v_seed v_wide v_up v_low r_sines w8 r_p1)) (va_runV (As := [.ref n_p1, .int x2, .int (1 : Int32)]) (rest := []) ⟨hx, hb, hml, hown, hts⟩ (m_X6_missOf l dC dI k H.size n_t n_p1 n_text n_readPage n_page n_trial n_book n_kept n_isKept n_seenStation n_seenOther n_seenWide n_seenWas n_sines n_at n_column n_gram n_right n_work v_thrown v_textSize v_place v_stations v_readStations v_doings v_seen v_seed v_wide v_up v_low r_sines w8 r_p1 x2 (1 : Int32) e14) (cwV 3 hts gX6_closes_X6_missOf rfl rfl rfl (by decide +kernel) ⟨Nat.le_of_ble_eq_true rfl, Nat.le_of_ble_eq_true rfl⟩) (g_preV hG hP hD hS hA [0, 1, 2, 3] rfl (by decide) (ci := 6) (q0 := 0) rfl rfl) rfl rfl hl.1 rfl (lv_room (Nat.le_of_ble_eq_true rfl)) dX6_closes_39 ⟨Nat.le_of_ble_eq_true rfl, Nat.le_of_ble_eq_true rfl⟩) hP hD hS hA [0, 1, 2, 3] [] [0, 1, 2, 3] rfl rfl (by decide) (by decide) rfl (by decide) (fun H locs hP hD hS => ?_)
      refine lv_if_ne (tgt := 59) hx hb dX6_closes_42 (by decide) (fun c15 => ?_) (fun c15 => ?_)
      · replace hm := ifn c15 hm
        refine lv_iconst (v := (0 : Int32)) hx hb dX6_closes_59 (by decide) ?_
        exact RET _ _ _ _ _ _ dX6_closes_60 hm (by decide +kernel) hP hD hS
      · replace hm := ifp c15 hm
        refine lv_aload_n hx hb dX6_closes_45 rfl (lv_at hl 0 rfl) ?_
        refine lv_aload_n hx hb dX6_closes_46 rfl (lv_at hl 1 rfl) ?_
        refine lv_iload_n hx hb dX6_closes_47 rfl (lv_at hl 2 rfl) ?_
        refine lv_iconst (v := (2 : Int32)) hx hb dX6_closes_48 (by decide) ?_
        obtain ⟨r16, e17, hm⟩ := bnd1_some hm
        refine g_calli (w2 := (wd_4da35a k n_t n_p1 n_text n_readPage n_page n_trial n_book n_kept n_isKept n_seenStation n_seenOther n_seenWide n_seenWas n_sines n_at n_column n_gram n_right n_work v_thrown v_textSize v_place v_stations v_readStations v_doings v_seen v_seed v_wide v_up v_low r_sines w8 r_p1)) (va_runV (As := [.ref n_p1, .int x2, .int (2 : Int32)]) (rest := []) ⟨hx, hb, hml, hown, hts⟩ (m_X6_missOf l dC dI k H.size n_t n_p1 n_text n_readPage n_page n_trial n_book n_kept n_isKept n_seenStation n_seenOther n_seenWide n_seenWas n_sines n_at n_column n_gram n_right n_work v_thrown v_textSize v_place v_stations v_readStations v_doings v_seen v_seed v_wide v_up v_low r_sines w8 r_p1 x2 (2 : Int32) e17) (cwV 3 hts gX6_closes_X6_missOf rfl rfl rfl (by decide +kernel) ⟨Nat.le_of_ble_eq_true rfl, Nat.le_of_ble_eq_true rfl⟩) (g_preV hG hP hD hS hA [0, 1, 2, 3] rfl (by decide) (ci := 6) (q0 := 0) rfl rfl) rfl rfl hl.1 rfl (lv_room (Nat.le_of_ble_eq_true rfl)) dX6_closes_49 ⟨Nat.le_of_ble_eq_true rfl, Nat.le_of_ble_eq_true rfl⟩) hP hD hS hA [0, 1, 2, 3] [] [0, 1, 2, 3] rfl rfl (by decide) (by decide) rfl (by decide) (fun H locs hP hD hS => ?_)
        refine lv_if_ne (tgt := 59) hx hb dX6_closes_52 (by decide) (fun c18 => ?_) (fun c18 => ?_)
        · replace hm := ifn c18 hm
          refine lv_iconst (v := (0 : Int32)) hx hb dX6_closes_59 (by decide) ?_
          exact RET _ _ _ _ _ _ dX6_closes_60 hm (by decide +kernel) hP hD hS
        · replace hm := ifp c18 hm
          refine lv_iconst (v := (1 : Int32)) hx hb dX6_closes_55 (by decide) ?_
          refine lv_goto (tgt := 60) hx hb dX6_closes_56 (by decide) ?_
          exact RET _ _ _ _ _ _ dX6_closes_60 hm (by decide +kernel) hP hD hS
  · replace hm := ifp c7 hm
    refine lv_iconst (v := (0 : Int32)) hx hb dX6_closes_18 (by decide) ?_
    exact RET _ _ _ _ _ _ dX6_closes_19 hm (by decide +kernel) hP hD hS
set_option maxRecDepth 100000 in
theorem m_X6_closes (l : Launch) (dC : Nat → ClassId) (dI : Nat → Nat → Nat) (k : Nat → ClassId) (F : Nat) (sz : Nat) (n_t n_p1 n_text n_readPage n_page n_trial n_book n_kept n_isKept n_seenStation n_seenOther n_seenWide n_seenWas n_sines n_at n_column n_gram n_right n_work : Nat) (v_thrown : Int32) (v_textSize : Int32) (v_place : Int32) (v_stations : Int32) (v_readStations : Int32) (v_doings : Int32) (v_seen : Int32) (v_seed : Int64) (v_wide : Int32) (v_up : Int64) (v_low : Int64) (r_sines : Nat → Int32) (r_at : Nat → Int32) (r_p1 : Nat → Int32) (x2 : Int32) {o_r : Int32} {o_r_at : (Nat → Int32)} (hm : f_X6_closes F x2 r_sines r_at r_p1 = some (o_r, o_r_at)) : Met l yX6_closes wsX6_closes rm_X6_closes (gPre dC dI k [.ref n_t, .ref n_p1, .int x2] sz (wd_4da35a k n_t n_p1 n_text n_readPage n_page n_trial n_book n_kept n_isKept n_seenStation n_seenOther n_seenWide n_seenWas n_sines n_at n_column n_gram n_right n_work v_thrown v_textSize v_place v_stations v_readStations v_doings v_seen v_seed v_wide v_up v_low r_sines r_at r_p1)) (gQI dC dI (va_A (wd_4da35a k n_t n_p1 n_text n_readPage n_page n_trial n_book n_kept n_isKept n_seenStation n_seenOther n_seenWide n_seenWas n_sines n_at n_column n_gram n_right n_work v_thrown v_textSize v_place v_stations v_readStations v_doings v_seen v_seed v_wide v_up v_low r_sines r_at r_p1) sz) o_r (wd_4da35a k n_t n_p1 n_text n_readPage n_page n_trial n_book n_kept n_isKept n_seenStation n_seenOther n_seenWide n_seenWas n_sines n_at n_column n_gram n_right n_work v_thrown v_textSize v_place v_stations v_readStations v_doings v_seen v_seed v_wide v_up v_low r_sines o_r_at r_p1)) 0 0 (va_A (wd_4da35a k n_t n_p1 n_text n_readPage n_page n_trial n_book n_kept n_isKept n_seenStation n_seenOther n_seenWide n_seenWas n_sines n_at n_column n_gram n_right n_work v_thrown v_textSize v_place v_stations v_readStations v_doings v_seen v_seed v_wide v_up v_low r_sines r_at r_p1) sz) := by
  refine g_entry (cc := cX6_closes) (maxL := 3) (ret := (some .boolean)) (lv := [(0, .ref n_t), (1, .ref n_p1), (2, .int x2)]) (by decide +kernel) rfl (Nat.le_of_ble_eq_true rfl) rfl (fun p e s m below meth c ls hx hb hr hml hts hown hlk hnm hsz hG hA hP hD hS hl => ?_)
  exact k_X6_closes hx hb hml hts hown hG hA F n_t n_p1 n_text n_readPage n_page n_trial n_book n_kept n_isKept n_seenStation n_seenOther n_seenWide n_seenWas n_sines n_at n_column n_gram n_right n_work v_thrown v_textSize v_place v_stations v_readStations v_doings v_seen v_seed v_wide v_up v_low r_sines r_at r_p1 x2 o_r o_r_at (fun pc H locs ls v q_r_at hd ho hz hP hD hS => by cases ho; exact g_iretz hx hb hr hlk hP hD hS hz hd) s.heap [] ls hl hP hD hS hm
end
section
set_option maxHeartbeats 4000000 in
set_option maxRecDepth 100000 in
theorem k_X6_does {p : Program} {l : Launch} {e : Env} {s : State} {m : MethodId} {args : Array Value} {below : List Frame} {meth : Method} {c : Code} {A : Nat → Prop} {Q : State → Prop} {dC : Nat → ClassId} {dI : Nat → Nat → Nat} {k : Nat → ClassId} (hx : p.tables.exec = Jvm.exec) (hb : c.code = cX6_does) (hml : c.maxLocals = 7) (hts : ∀ w ∈ wsX6_does, w.before args s = true) (hown : s.vm.findClass RX6 = some m.cls) (hG : gK dC dI k A s) (hA : ∀ q : Nat, s.heap.size ≤ q → A q) (F : Nat) (n_t n_text n_readPage n_page n_trial n_book n_kept n_isKept n_seenStation n_seenOther n_seenWide n_seenWas n_sines n_at n_column n_gram n_right n_work : Nat) (v_thrown : Int32) (v_textSize : Int32) (v_place : Int32) (v_stations : Int32) (v_readStations : Int32) (v_doings : Int32) (v_seen : Int32) (v_seed : Int64) (v_wide : Int32) (v_up : Int64) (v_low : Int64) (r_trial : Nat → Int32) (r_sines : Nat → Int32) (r_at : Nat → Int32) (x1 : Int32) (x2 : Int32) (x3 : Int32) (x4 : Int32) (o_r : Int32) (o_r_trial : (Nat → Int32)) (o_r_at : (Nat → Int32)) (RET : ∀ (pc : Nat) (H : Heap) (locs : List Loc) (ls : Array Slot) (v : Int32) (q_r_trial : Nat → Int32) (q_r_at : Nat → Int32), decode cX6_does pc = .ok (.ireturn, 1) → some (v, q_r_trial, q_r_at) = some (o_r, o_r_trial, o_r_at) → narrow .boolean (.int v) = .int v → va_P (dC, dI) vwCl (wd_6788f7 k n_t n_text n_readPage n_page n_trial n_book n_kept n_isKept n_seenStation n_seenOther n_seenWide n_seenWas n_sines n_at n_column n_gram n_right n_work v_thrown v_textSize v_place v_stations v_readStations v_doings v_seen v_seed v_wide v_up v_low q_r_trial r_sines q_r_at) H → va_D A (wd_6788f7 k n_t n_text n_readPage n_page n_trial n_book n_kept n_isKept n_seenStation n_seenOther n_seenWide n_seenWas n_sines n_at n_column n_gram n_right n_work v_thrown v_textSize v_place v_stations v_readStations v_doings v_seen v_seed v_wide v_up v_low q_r_trial r_sines q_r_at) → va_S A s.heap H locs → W p l e rm_X6_does s m args below meth c H locs 0 0 Q (F0 m pc ls [.int v])) (H : Heap) (locs : List Loc) (ls : Array Slot) (hl : lv_has ls 7 [(0, .ref n_t), (1, .int x1), (2, .int x2), (3, .int x3), (4, .int x4)]) (hP : va_P (dC, dI) vwCl (wd_6788f7 k n_t n_text n_readPage n_page n_trial n_book n_kept n_isKept n_seenStation n_seenOther n_seenWide n_seenWas n_sines n_at n_column n_gram n_right n_work v_thrown v_textSize v_place v_stations v_readStations v_doings v_seen v_seed v_wide v_up v_low r_trial r_sines r_at) H) (hD : va_D A (wd_6788f7 k n_t n_text n_readPage n_page n_trial n_book n_kept n_isKept n_seenStation n_seenOther n_seenWide n_seenWas n_sines n_at n_column n_gram n_right n_work v_thrown v_textSize v_place v_stations v_readStations v_doings v_seen v_seed v_wide v_up v_low r_trial r_sines r_at)) (hS : va_S A s.heap H locs) (hm : f_X6_does F x1 x2 x3 x4 v_stations r_trial r_sines r_at = some (o_r, o_r_trial, o_r_at)) : W p l e rm_X6_does s m args below meth c H locs 0 0 Q (F0 m 0 ls []) := by
  have hinX6 : ∀ w ∈ u_ws RX6 TX6 28, w ∈ wsX6_does := by decide +kernel
  have k0 := hts (.fieldLink RX6 23 "CaveLegsModel" "trial" "[I") (by decide +kernel)
  have J_294 : ∀ (r_trial : Nat → Int32) (r_at : Nat → Int32) (s0 : Int32) (s1 : Int32) (H : Heap) (locs : List Loc) (ls : Array Slot), lv_has ls 7 [] → va_P (dC, dI) vwCl (wd_6788f7 k n_t n_text n_readPage n_page n_trial n_book n_kept n_isKept n_seenStation n_seenOther n_seenWide n_seenWas n_sines n_at n_column n_gram n_right n_work v_thrown v_textSize v_place v_stations v_readStations v_doings v_seen v_seed v_wide v_up v_low r_trial r_sines r_at) H → va_D A (wd_6788f7 k n_t n_text n_readPage n_page n_trial n_book n_kept n_isKept n_seenStation n_seenOther n_seenWide n_seenWas n_sines n_at n_column n_gram n_right n_work v_thrown v_textSize v_place v_stations v_readStations v_doings v_seen v_seed v_wide v_up v_low r_trial r_sines r_at) → va_S A s.heap H locs → f_X6_does_J294 F v_stations r_sines r_trial r_at s0 s1 = some (o_r, o_r_trial, o_r_at) → W p l e rm_X6_does s m args below meth c H locs 0 0 Q (F0 m 294 ls [.int s1, .int s0]) := by
    intro r_trial r_at s0 s1 H locs ls hl hP hD hS hm
    unfold f_X6_does_J294 at hm
    refine lv_icmp_ne (tgt := 301) hx hb dX6_does_294 (by decide) (fun c1 => ?_) (fun c1 => ?_)
    · replace hm := ifn c1 hm
      refine lv_iconst (v := (0 : Int32)) hx hb dX6_does_301 (by decide) ?_
      exact RET _ _ _ _ _ _ _ dX6_does_302 hm (by decide +kernel) hP hD hS
    · replace hm := ifp c1 hm
      refine lv_iconst (v := (1 : Int32)) hx hb dX6_does_297 (by decide) ?_
      refine lv_goto (tgt := 302) hx hb dX6_does_298 (by decide) ?_
      exact RET _ _ _ _ _ _ _ dX6_does_302 hm (by decide +kernel) hP hD hS
  have J_24 : ∀ (r_trial : Nat → Int32) (r_at : Nat → Int32) (x1 : Int32) (x2 : Int32) (x3 : Int32) (x4 : Int32) (x5 : Int32) (s0 : Int32) (H : Heap) (locs : List Loc) (ls : Array Slot), lv_has ls 7 [(0, .ref n_t), (1, .int x1), (2, .int x2), (3, .int x3), (4, .int x4), (5, .int x5)] → va_P (dC, dI) vwCl (wd_6788f7 k n_t n_text n_readPage n_page n_trial n_book n_kept n_isKept n_seenStation n_seenOther n_seenWide n_seenWas n_sines n_at n_column n_gram n_right n_work v_thrown v_textSize v_place v_stations v_readStations v_doings v_seen v_seed v_wide v_up v_low r_trial r_sines r_at) H → va_D A (wd_6788f7 k n_t n_text n_readPage n_page n_trial n_book n_kept n_isKept n_seenStation n_seenOther n_seenWide n_seenWas n_sines n_at n_column n_gram n_right n_work v_thrown v_textSize v_place v_stations v_readStations v_doings v_seen v_seed v_wide v_up v_low r_trial r_sines r_at) → va_S A s.heap H locs → f_X6_does_J24 F v_stations r_sines r_trial r_at x1 x2 x3 x4 x5 s0 = some (o_r, o_r_trial, o_r_at) → W p l e rm_X6_does s m args below meth c H locs 0 0 Q (F0 m 24 ls [.int s0]) := by
    intro r_trial r_at x1 x2 x3 x4 x5 s0 H locs ls hl hP hD hS hm
    unfold f_X6_does_J24 at hm
    refine lv_istore (lv' := [(6, .int s0), (0, .ref n_t), (1, .int x1), (2, .int x2), (3, .int x3), (4, .int x4), (5, .int x5)]) hx hb dX6_does_24 hl (by decide) rfl (fun ls hl => ?_)
    refine lv_iload_n hx hb dX6_does_26 rfl (lv_at hl 2 rfl) ?_
    by_cases c2 : x1 = (1 : Int32)
    · replace hm := ifp c2 hm
      refine lv_tableIn (off := 41) (tgt := 68) hx hb dX6_does_27 (by rw [c2]; decide) (by rw [c2]; decide) (by rw [c2]; rfl) (by decide) ?_
      refine lv_iload hx hb dX6_does_68 (lv_at hl 0 rfl) ?_
      refine lv_if_eq (tgt := 78) hx hb dX6_does_70 (by decide) (fun c3 => ?_) (fun c3 => ?_)
      · replace hm := ifp c3 hm
        refine lv_iconst (v := (0 : Int32)) hx hb dX6_does_78 (by decide) ?_
        exact RET _ _ _ _ _ _ _ dX6_does_79 hm (by decide +kernel) hP hD hS
      · replace hm := ifn c3 hm
        refine lv_iload hx hb dX6_does_73 (lv_at hl 6 rfl) ?_
        refine lv_if_eq (tgt := 80) hx hb dX6_does_75 (by decide) (fun c4 => ?_) (fun c4 => ?_)
        · replace hm := ifp c4 hm
          refine lv_aload_n hx hb dX6_does_80 rfl (lv_at hl 1 rfl) ?_
          refine va_get (D := (dC, dI)) (ci := 6) (v := .ref n_trial) (C := RX6) (T := TX6) (N := 28) hx hb hts hinX6 hown hG.1 hP 0 rfl rfl 8 (by decide) k0 (fun _ h9 => h9) rfl dX6_does_81 ?_
          refine lv_iconst (v := (1 : Int32)) hx hb dX6_does_84 (by decide) ?_
          refine lv_dup2_11 hx hb dX6_does_85 rfl rfl ?_
          obtain ⟨hi5, hm⟩ := chk_some hm
          refine va_iald hx hb hG.1 hP 1 0 rfl rfl hi5 dX6_does_86 ?_
          refine lv_iconst (v := (1 : Int32)) hx hb dX6_does_87 (by decide) ?_
          refine lv_iload_n hx hb dX6_does_88 rfl (lv_at hl 3 rfl) ?_
          refine g_ishl hx hb dX6_does_89 ?_
          refine lv_ixor hx hb dX6_does_90 ?_
          refine lv_topi (fun t6 et6 => ?_)
          replace hm := (nmd_eq et6).trans hm
          obtain ⟨hi7, hm⟩ := chk_some hm
          refine va_iast hx hb hG.1 hP hD hS 1 0 rfl rfl hi7 dX6_does_91 (fun H locs hP hD hS => ?_)
          replace hP : va_P (dC, dI) vwCl (wd_6788f7 k n_t n_text n_readPage n_page n_trial n_book n_kept n_isKept n_seenStation n_seenOther n_seenWide n_seenWas n_sines n_at n_column n_gram n_right n_work v_thrown v_textSize v_place v_stations v_readStations v_doings v_seen v_seed v_wide v_up v_low (upd r_trial (Int32.toNatClampNeg (1 : Int32)) t6) r_sines r_at) H := hP
          replace hD : va_D A (wd_6788f7 k n_t n_text n_readPage n_page n_trial n_book n_kept n_isKept n_seenStation n_seenOther n_seenWide n_seenWas n_sines n_at n_column n_gram n_right n_work v_thrown v_textSize v_place v_stations v_readStations v_doings v_seen v_seed v_wide v_up v_low (upd r_trial (Int32.toNatClampNeg (1 : Int32)) t6) r_sines r_at) := hD
          refine lv_iconst (v := (1 : Int32)) hx hb dX6_does_92 (by decide) ?_
          exact RET _ _ _ _ _ _ _ dX6_does_93 hm (by decide +kernel) hP hD hS
        · replace hm := ifn c4 hm
          refine lv_iconst (v := (0 : Int32)) hx hb dX6_does_78 (by decide) ?_
          exact RET _ _ _ _ _ _ _ dX6_does_79 hm (by decide +kernel) hP hD hS
    · replace hm := ifn c2 hm
      by_cases c8 : x1 = (2 : Int32)
      · replace hm := ifp c8 hm
        refine lv_tableIn (off := 67) (tgt := 94) hx hb dX6_does_27 (by rw [c8]; decide) (by rw [c8]; decide) (by rw [c8]; rfl) (by decide) ?_
        refine lv_iload hx hb dX6_does_94 (lv_at hl 0 rfl) ?_
        refine lv_if_eq (tgt := 104) hx hb dX6_does_96 (by decide) (fun c9 => ?_) (fun c9 => ?_)
        · replace hm := ifp c9 hm
          refine lv_iconst (v := (0 : Int32)) hx hb dX6_does_104 (by decide) ?_
          exact RET _ _ _ _ _ _ _ dX6_does_105 hm (by decide +kernel) hP hD hS
        · replace hm := ifn c9 hm
          refine lv_iload hx hb dX6_does_99 (lv_at hl 6 rfl) ?_
          refine lv_if_eq (tgt := 106) hx hb dX6_does_101 (by decide) (fun c10 => ?_) (fun c10 => ?_)
          · replace hm := ifp c10 hm
            refine lv_aload_n hx hb dX6_does_106 rfl (lv_at hl 1 rfl) ?_
            refine va_get (D := (dC, dI)) (ci := 6) (v := .ref n_trial) (C := RX6) (T := TX6) (N := 28) hx hb hts hinX6 hown hG.1 hP 0 rfl rfl 8 (by decide) k0 (fun _ h9 => h9) rfl dX6_does_107 ?_
            refine lv_iload_n hx hb dX6_does_110 rfl (lv_at hl 3 rfl) ?_
            obtain ⟨w11, e12, hm⟩ := bnd1_some hm
            refine g_callv (w2 := (wd_6788f7 k n_t n_text n_readPage n_page n_trial n_book n_kept n_isKept n_seenStation n_seenOther n_seenWide n_seenWas n_sines n_at n_column n_gram n_right n_work v_thrown v_textSize v_place v_stations v_readStations v_doings v_seen v_seed v_wide v_up v_low w11 r_sines r_at)) (va_runS (As := [.ref n_trial, .int x2]) (rest := []) ⟨hx, hb, hml, hown, hts⟩ (m_X6_takeOn l dC dI k F H.size n_trial r_trial x2 e12) (va_cwS 2 hts gX6_does_X6_takeOn rfl rfl rfl (by decide +kernel) ⟨Nat.le_of_ble_eq_true rfl, Nat.le_of_ble_eq_true rfl⟩) (g_preS hG hP hD hS hA [1] rfl (by decide)) rfl rfl hl.1 rfl (lv_room (Nat.le_of_ble_eq_true rfl)) dX6_does_111 ⟨Nat.le_of_ble_eq_true rfl, Nat.le_of_ble_eq_true rfl⟩) hP hD hS hA [1] [0, 2, 3] [0, 3, 1, 2] rfl rfl (by decide) (by decide) rfl (by decide) (fun H locs hP hD hS => ?_)
            refine lv_iconst (v := (1 : Int32)) hx hb dX6_does_114 (by decide) ?_
            exact RET _ _ _ _ _ _ _ dX6_does_115 hm (by decide +kernel) hP hD hS
          · replace hm := ifn c10 hm
            refine lv_iconst (v := (0 : Int32)) hx hb dX6_does_104 (by decide) ?_
            exact RET _ _ _ _ _ _ _ dX6_does_105 hm (by decide +kernel) hP hD hS
      · replace hm := ifn c8 hm
        by_cases c13 : x1 = (3 : Int32)
        · replace hm := ifp c13 hm
          refine lv_tableIn (off := 89) (tgt := 116) hx hb dX6_does_27 (by rw [c13]; decide) (by rw [c13]; decide) (by rw [c13]; rfl) (by decide) ?_
          refine lv_iload hx hb dX6_does_116 (lv_at hl 0 rfl) ?_
          refine lv_if_eq (tgt := 126) hx hb dX6_does_118 (by decide) (fun c14 => ?_) (fun c14 => ?_)
          · replace hm := ifp c14 hm
            refine lv_iconst (v := (0 : Int32)) hx hb dX6_does_126 (by decide) ?_
            exact RET _ _ _ _ _ _ _ dX6_does_127 hm (by decide +kernel) hP hD hS
          · replace hm := ifn c14 hm
            refine lv_iload hx hb dX6_does_121 (lv_at hl 6 rfl) ?_
            refine lv_if_ne (tgt := 128) hx hb dX6_does_123 (by decide) (fun c15 => ?_) (fun c15 => ?_)
            · replace hm := ifn c15 hm
              refine lv_aload_n hx hb dX6_does_128 rfl (lv_at hl 1 rfl) ?_
              refine va_get (D := (dC, dI)) (ci := 6) (v := .ref n_trial) (C := RX6) (T := TX6) (N := 28) hx hb hts hinX6 hown hG.1 hP 0 rfl rfl 8 (by decide) k0 (fun _ h9 => h9) rfl dX6_does_129 ?_
              refine lv_iconst (v := (2 : Int32)) hx hb dX6_does_132 (by decide) ?_
              refine lv_bipush (v := (6 : Int32)) hx hb dX6_does_133 (by decide) ?_
              refine lv_iload_n hx hb dX6_does_135 rfl (lv_at hl 3 rfl) ?_
              refine lv_imul hx hb dX6_does_136 ?_
              refine lv_iadd hx hb dX6_does_137 ?_
              refine lv_iconst (v := (0 : Int32)) hx hb dX6_does_138 (by decide) ?_
              refine lv_iadd hx hb dX6_does_139 ?_
              refine lv_iload hx hb dX6_does_140 (lv_at hl 6 rfl) ?_
              obtain ⟨hi16, hm⟩ := chk_some hm
              refine va_iast hx hb hG.1 hP hD hS 1 0 rfl rfl hi16 dX6_does_142 (fun H locs hP hD hS => ?_)
              replace hP : va_P (dC, dI) vwCl (wd_6788f7 k n_t n_text n_readPage n_page n_trial n_book n_kept n_isKept n_seenStation n_seenOther n_seenWide n_seenWas n_sines n_at n_column n_gram n_right n_work v_thrown v_textSize v_place v_stations v_readStations v_doings v_seen v_seed v_wide v_up v_low (upd r_trial (Int32.toNatClampNeg (((2 : Int32) + ((6 : Int32) * x2)) + (0 : Int32))) x5) r_sines r_at) H := hP
              replace hD : va_D A (wd_6788f7 k n_t n_text n_readPage n_page n_trial n_book n_kept n_isKept n_seenStation n_seenOther n_seenWide n_seenWas n_sines n_at n_column n_gram n_right n_work v_thrown v_textSize v_place v_stations v_readStations v_doings v_seen v_seed v_wide v_up v_low (upd r_trial (Int32.toNatClampNeg (((2 : Int32) + ((6 : Int32) * x2)) + (0 : Int32))) x5) r_sines r_at) := hD
              refine lv_iconst (v := (1 : Int32)) hx hb dX6_does_143 (by decide) ?_
              exact RET _ _ _ _ _ _ _ dX6_does_144 hm (by decide +kernel) hP hD hS
            · replace hm := ifp c15 hm
              refine lv_iconst (v := (0 : Int32)) hx hb dX6_does_126 (by decide) ?_
              exact RET _ _ _ _ _ _ _ dX6_does_127 hm (by decide +kernel) hP hD hS
        · replace hm := ifn c13 hm
          by_cases c17 : x1 = (4 : Int32)
          · replace hm := ifp c17 hm
            refine lv_tableIn (off := 118) (tgt := 145) hx hb dX6_does_27 (by rw [c17]; decide) (by rw [c17]; decide) (by rw [c17]; rfl) (by decide) ?_
            refine lv_aload_n hx hb dX6_does_145 rfl (lv_at hl 1 rfl) ?_
            refine lv_iload_n hx hb dX6_does_146 rfl (lv_at hl 3 rfl) ?_
            obtain ⟨r18, e19, hm⟩ := bnd1_some hm
            refine g_calli (w2 := (wd_6788f7 k n_t n_text n_readPage n_page n_trial n_book n_kept n_isKept n_seenStation n_seenOther n_seenWide n_seenWas n_sines n_at n_column n_gram n_right n_work v_thrown v_textSize v_place v_stations v_readStations v_doings v_seen v_seed v_wide v_up v_low r_trial r_sines r_at)) (va_runV (As := [.int x2]) (rest := []) ⟨hx, hb, hml, hown, hts⟩ (m_X6_noStation l dC dI k H.size n_t n_text n_readPage n_page n_trial n_book n_kept n_isKept n_seenStation n_seenOther n_seenWide n_seenWas n_sines n_at n_column n_gram n_right n_work v_thrown v_textSize v_place v_stations v_readStations v_doings v_seen v_seed v_wide v_up v_low x2 e19) (cwV 1 hts gX6_does_X6_noStation rfl rfl rfl (by decide +kernel) ⟨Nat.le_of_ble_eq_true rfl, Nat.le_of_ble_eq_true rfl⟩) (g_preV hG hP hD hS hA [0] rfl (by decide) (ci := 6) (q0 := 0) rfl rfl) rfl rfl hl.1 rfl (lv_room (Nat.le_of_ble_eq_true rfl)) dX6_does_147 ⟨Nat.le_of_ble_eq_true rfl, Nat.le_of_ble_eq_true rfl⟩) hP hD hS hA [0] [1, 2, 3] [3, 0, 1, 2] rfl rfl (by decide) (by decide) rfl (by decide) (fun H locs hP hD hS => ?_)
            refine lv_if_ne (tgt := 187) hx hb dX6_does_150 (by decide) (fun c20 => ?_) (fun c20 => ?_)
            · replace hm := ifn c20 hm
              refine lv_iconst (v := (0 : Int32)) hx hb dX6_does_187 (by decide) ?_
              exact RET _ _ _ _ _ _ _ dX6_does_188 hm (by decide +kernel) hP hD hS
            · replace hm := ifp c20 hm
              refine lv_aload_n hx hb dX6_does_153 rfl (lv_at hl 1 rfl) ?_
              refine lv_iload_n hx hb dX6_does_154 rfl (lv_at hl 4 rfl) ?_
              obtain ⟨r21, e22, hm⟩ := bnd1_some hm
              refine g_calli (w2 := (wd_6788f7 k n_t n_text n_readPage n_page n_trial n_book n_kept n_isKept n_seenStation n_seenOther n_seenWide n_seenWas n_sines n_at n_column n_gram n_right n_work v_thrown v_textSize v_place v_stations v_readStations v_doings v_seen v_seed v_wide v_up v_low r_trial r_sines r_at)) (va_runV (As := [.int x3]) (rest := []) ⟨hx, hb, hml, hown, hts⟩ (m_X6_noStation l dC dI k H.size n_t n_text n_readPage n_page n_trial n_book n_kept n_isKept n_seenStation n_seenOther n_seenWide n_seenWas n_sines n_at n_column n_gram n_right n_work v_thrown v_textSize v_place v_stations v_readStations v_doings v_seen v_seed v_wide v_up v_low x3 e22) (cwV 1 hts gX6_does_X6_noStation rfl rfl rfl (by decide +kernel) ⟨Nat.le_of_ble_eq_true rfl, Nat.le_of_ble_eq_true rfl⟩) (g_preV hG hP hD hS hA [0] rfl (by decide) (ci := 6) (q0 := 0) rfl rfl) rfl rfl hl.1 rfl (lv_room (Nat.le_of_ble_eq_true rfl)) dX6_does_155 ⟨Nat.le_of_ble_eq_true rfl, Nat.le_of_ble_eq_true rfl⟩) hP hD hS hA [0] [1, 2, 3] [3, 0, 1, 2] rfl rfl (by decide) (by decide) rfl (by decide) (fun H locs hP hD hS => ?_)
              refine lv_if_ne (tgt := 187) hx hb dX6_does_158 (by decide) (fun c23 => ?_) (fun c23 => ?_)
              · replace hm := ifn c23 hm
                refine lv_iconst (v := (0 : Int32)) hx hb dX6_does_187 (by decide) ?_
                exact RET _ _ _ _ _ _ _ dX6_does_188 hm (by decide +kernel) hP hD hS
              · replace hm := ifp c23 hm
                refine lv_aload_n hx hb dX6_does_161 rfl (lv_at hl 1 rfl) ?_
                refine lv_aload_n hx hb dX6_does_162 rfl (lv_at hl 1 rfl) ?_
                refine va_get (D := (dC, dI)) (ci := 6) (v := .ref n_trial) (C := RX6) (T := TX6) (N := 28) hx hb hts hinX6 hown hG.1 hP 0 rfl rfl 8 (by decide) k0 (fun _ h9 => h9) rfl dX6_does_163 ?_
                refine lv_aload_n hx hb dX6_does_166 rfl (lv_at hl 1 rfl) ?_
                refine va_get (D := (dC, dI)) (ci := 6) (v := .ref n_trial) (C := RX6) (T := TX6) (N := 28) hx hb hts hinX6 hown hG.1 hP 0 rfl rfl 8 (by decide) k0 (fun _ h9 => h9) rfl dX6_does_167 ?_
                obtain ⟨r24, e25, hm⟩ := bnd1_some hm
                refine g_calli (w2 := (wd_6788f7 k n_t n_text n_readPage n_page n_trial n_book n_kept n_isKept n_seenStation n_seenOther n_seenWide n_seenWas n_sines n_at n_column n_gram n_right n_work v_thrown v_textSize v_place v_stations v_readStations v_doings v_seen v_seed v_wide v_up v_low r_trial r_sines r_at)) (va_runS (As := [.ref n_trial]) (rest := [.ref n_trial, .ref n_t]) ⟨hx, hb, hml, hown, hts⟩ (m_X6_openOnes l dC dI k H.size n_trial r_trial  e25) (va_cwS 1 hts gX6_does_X6_openOnes rfl rfl rfl (by decide +kernel) ⟨Nat.le_of_ble_eq_true rfl, Nat.le_of_ble_eq_true rfl⟩) (g_preS hG hP hD hS hA [1] rfl (by decide)) rfl rfl hl.1 rfl (lv_room (Nat.le_of_ble_eq_true rfl)) dX6_does_170 ⟨Nat.le_of_ble_eq_true rfl, Nat.le_of_ble_eq_true rfl⟩) hP hD hS hA [1] [0, 2, 3] [0, 3, 1, 2] rfl rfl (by decide) (by decide) rfl (by decide) (fun H locs hP hD hS => ?_)
                refine lv_iload_n hx hb dX6_does_173 rfl (lv_at hl 3 rfl) ?_
                refine lv_iload_n hx hb dX6_does_174 rfl (lv_at hl 4 rfl) ?_
                obtain ⟨r26, e27, hm⟩ := bnd1_some hm
                refine g_calli (w2 := (wd_6788f7 k n_t n_text n_readPage n_page n_trial n_book n_kept n_isKept n_seenStation n_seenOther n_seenWide n_seenWas n_sines n_at n_column n_gram n_right n_work v_thrown v_textSize v_place v_stations v_readStations v_doings v_seen v_seed v_wide v_up v_low r_trial r_sines r_at)) (va_runV (As := [.ref n_trial, .int r24, .int x2, .int x3]) (rest := []) ⟨hx, hb, hml, hown, hts⟩ (m_X6_widestBy l dC dI k F H.size n_t n_trial n_text n_readPage n_page n_trial n_book n_kept n_isKept n_seenStation n_seenOther n_seenWide n_seenWas n_sines n_at n_column n_gram n_right n_work v_thrown v_textSize v_place v_stations v_readStations v_doings v_seen v_seed v_wide v_up v_low r_trial r24 x2 x3 e27) (cwV 4 hts gX6_does_X6_widestBy rfl rfl rfl (by decide +kernel) ⟨Nat.le_of_ble_eq_true rfl, Nat.le_of_ble_eq_true rfl⟩) (g_preV hG hP hD hS hA [0, 1] rfl (by decide) (ci := 6) (q0 := 0) rfl rfl) rfl rfl hl.1 rfl (lv_room (Nat.le_of_ble_eq_true rfl)) dX6_does_175 ⟨Nat.le_of_ble_eq_true rfl, Nat.le_of_ble_eq_true rfl⟩) hP hD hS hA [0, 1] [2, 3] [2, 3, 0, 1] rfl rfl (by decide) (by decide) rfl (by decide) (fun H locs hP hD hS => ?_)
                refine lv_iload hx hb dX6_does_178 (lv_at hl 5 rfl) ?_
                refine lv_icmp_lt (tgt := 187) hx hb dX6_does_180 (by decide) (fun c28 => ?_) (fun c28 => ?_)
                · replace hm := ifp c28 hm
                  refine lv_iconst (v := (0 : Int32)) hx hb dX6_does_187 (by decide) ?_
                  exact RET _ _ _ _ _ _ _ dX6_does_188 hm (by decide +kernel) hP hD hS
                · replace hm := ifn c28 hm
                  refine lv_iconst (v := (1 : Int32)) hx hb dX6_does_183 (by decide) ?_
                  refine lv_goto (tgt := 188) hx hb dX6_does_184 (by decide) ?_
                  exact RET _ _ _ _ _ _ _ dX6_does_188 hm (by decide +kernel) hP hD hS
          · replace hm := ifn c17 hm
            by_cases c29 : x1 = (5 : Int32)
            · replace hm := ifp c29 hm
              refine lv_tableIn (off := 162) (tgt := 189) hx hb dX6_does_27 (by rw [c29]; decide) (by rw [c29]; decide) (by rw [c29]; rfl) (by decide) ?_
              refine lv_iload hx hb dX6_does_189 (lv_at hl 5 rfl) ?_
              refine lv_if_ne (tgt := 215) hx hb dX6_does_191 (by decide) (fun c30 => ?_) (fun c30 => ?_)
              · replace hm := ifn c30 hm
                refine lv_iconst (v := (0 : Int32)) hx hb dX6_does_215 (by decide) ?_
                exact RET _ _ _ _ _ _ _ dX6_does_216 hm (by decide +kernel) hP hD hS
              · replace hm := ifp c30 hm
                refine lv_aload_n hx hb dX6_does_194 rfl (lv_at hl 1 rfl) ?_
                refine lv_aload_n hx hb dX6_does_195 rfl (lv_at hl 1 rfl) ?_
                refine va_get (D := (dC, dI)) (ci := 6) (v := .ref n_trial) (C := RX6) (T := TX6) (N := 28) hx hb hts hinX6 hown hG.1 hP 0 rfl rfl 8 (by decide) k0 (fun _ h9 => h9) rfl dX6_does_196 ?_
                obtain ⟨r31, e32, hm⟩ := bnd1_some hm
                refine g_calli (w2 := (wd_6788f7 k n_t n_text n_readPage n_page n_trial n_book n_kept n_isKept n_seenStation n_seenOther n_seenWide n_seenWas n_sines n_at n_column n_gram n_right n_work v_thrown v_textSize v_place v_stations v_readStations v_doings v_seen v_seed v_wide v_up v_low r_trial r_sines r_at)) (va_runV (As := [.ref n_trial]) (rest := []) ⟨hx, hb, hml, hown, hts⟩ (m_X6_loops l dC dI k F H.size n_t n_trial n_text n_readPage n_page n_trial n_book n_kept n_isKept n_seenStation n_seenOther n_seenWide n_seenWas n_sines n_at n_column n_gram n_right n_work v_thrown v_textSize v_place v_stations v_readStations v_doings v_seen v_seed v_wide v_up v_low r_trial  e32) (cwV 1 hts gX6_does_X6_loops rfl rfl rfl (by decide +kernel) ⟨Nat.le_of_ble_eq_true rfl, Nat.le_of_ble_eq_true rfl⟩) (g_preV hG hP hD hS hA [0, 1] rfl (by decide) (ci := 6) (q0 := 0) rfl rfl) rfl rfl hl.1 rfl (lv_room (Nat.le_of_ble_eq_true rfl)) dX6_does_199 ⟨Nat.le_of_ble_eq_true rfl, Nat.le_of_ble_eq_true rfl⟩) hP hD hS hA [0, 1] [2, 3] [2, 3, 0, 1] rfl rfl (by decide) (by decide) rfl (by decide) (fun H locs hP hD hS => ?_)
                refine lv_bipush (v := (10 : Int32)) hx hb dX6_does_202 (by decide) ?_
                refine lv_iload_n hx hb dX6_does_204 rfl (lv_at hl 3 rfl) ?_
                refine lv_imul hx hb dX6_does_205 ?_
                refine lv_iload_n hx hb dX6_does_206 rfl (lv_at hl 4 rfl) ?_
                refine lv_iadd hx hb dX6_does_207 ?_
                refine lv_icmp_ne (tgt := 215) hx hb dX6_does_208 (by decide) (fun c33 => ?_) (fun c33 => ?_)
                · replace hm := ifn c33 hm
                  refine lv_iconst (v := (0 : Int32)) hx hb dX6_does_215 (by decide) ?_
                  exact RET _ _ _ _ _ _ _ dX6_does_216 hm (by decide +kernel) hP hD hS
                · replace hm := ifp c33 hm
                  refine lv_iconst (v := (1 : Int32)) hx hb dX6_does_211 (by decide) ?_
                  refine lv_goto (tgt := 216) hx hb dX6_does_212 (by decide) ?_
                  exact RET _ _ _ _ _ _ _ dX6_does_216 hm (by decide +kernel) hP hD hS
            · replace hm := ifn c29 hm
              by_cases c34 : x1 = (6 : Int32)
              · replace hm := ifp c34 hm
                refine lv_tableIn (off := 190) (tgt := 217) hx hb dX6_does_27 (by rw [c34]; decide) (by rw [c34]; decide) (by rw [c34]; rfl) (by decide) ?_
                refine lv_iload hx hb dX6_does_217 (lv_at hl 0 rfl) ?_
                refine lv_if_eq (tgt := 243) hx hb dX6_does_219 (by decide) (fun c35 => ?_) (fun c35 => ?_)
                · replace hm := ifp c35 hm
                  refine lv_iconst (v := (0 : Int32)) hx hb dX6_does_243 (by decide) ?_
                  exact RET _ _ _ _ _ _ _ dX6_does_244 hm (by decide +kernel) hP hD hS
                · replace hm := ifn c35 hm
                  refine lv_iload hx hb dX6_does_222 (lv_at hl 6 rfl) ?_
                  refine lv_if_ne (tgt := 243) hx hb dX6_does_224 (by decide) (fun c36 => ?_) (fun c36 => ?_)
                  · replace hm := ifn c36 hm
                    refine lv_iconst (v := (0 : Int32)) hx hb dX6_does_243 (by decide) ?_
                    exact RET _ _ _ _ _ _ _ dX6_does_244 hm (by decide +kernel) hP hD hS
                  · replace hm := ifp c36 hm
                    refine lv_aload_n hx hb dX6_does_227 rfl (lv_at hl 1 rfl) ?_
                    refine lv_aload_n hx hb dX6_does_228 rfl (lv_at hl 1 rfl) ?_
                    refine va_get (D := (dC, dI)) (ci := 6) (v := .ref n_trial) (C := RX6) (T := TX6) (N := 28) hx hb hts hinX6 hown hG.1 hP 0 rfl rfl 8 (by decide) k0 (fun _ h9 => h9) rfl dX6_does_229 ?_
                    refine lv_iload_n hx hb dX6_does_232 rfl (lv_at hl 3 rfl) ?_
                    obtain ⟨r37, w38, e39, hm⟩ := bnd2_some hm
                    refine g_calli (w2 := (wd_6788f7 k n_t n_text n_readPage n_page n_trial n_book n_kept n_isKept n_seenStation n_seenOther n_seenWide n_seenWas n_sines n_at n_column n_gram n_right n_work v_thrown v_textSize v_place v_stations v_readStations v_doings v_seen v_seed v_wide v_up v_low r_trial r_sines w38)) (va_runV (As := [.ref n_trial, .int x2]) (rest := []) ⟨hx, hb, hml, hown, hts⟩ (m_X6_closes l dC dI k F H.size n_t n_trial n_text n_readPage n_page n_trial n_book n_kept n_isKept n_seenStation n_seenOther n_seenWide n_seenWas n_sines n_at n_column n_gram n_right n_work v_thrown v_textSize v_place v_stations v_readStations v_doings v_seen v_seed v_wide v_up v_low r_sines r_at r_trial x2 e39) (cwV 2 hts gX6_does_X6_closes rfl rfl rfl (by decide +kernel) ⟨Nat.le_of_ble_eq_true rfl, Nat.le_of_ble_eq_true rfl⟩) (g_preV hG hP hD hS hA [0, 2, 3, 1] rfl (by decide) (ci := 6) (q0 := 0) rfl rfl) rfl rfl hl.1 rfl (lv_room (Nat.le_of_ble_eq_true rfl)) dX6_does_233 ⟨Nat.le_of_ble_eq_true rfl, Nat.le_of_ble_eq_true rfl⟩) hP hD hS hA [0, 2, 3, 1] [] [0, 3, 1, 2] rfl rfl (by decide) (by decide) rfl (by decide) (fun H locs hP hD hS => ?_)
                    refine lv_if_eq (tgt := 243) hx hb dX6_does_236 (by decide) (fun c40 => ?_) (fun c40 => ?_)
                    · replace hm := ifp c40 hm
                      refine lv_iconst (v := (0 : Int32)) hx hb dX6_does_243 (by decide) ?_
                      exact RET _ _ _ _ _ _ _ dX6_does_244 hm (by decide +kernel) hP hD hS
                    · replace hm := ifn c40 hm
                      refine lv_iconst (v := (1 : Int32)) hx hb dX6_does_239 (by decide) ?_
                      refine lv_goto (tgt := 244) hx hb dX6_does_240 (by decide) ?_
                      exact RET _ _ _ _ _ _ _ dX6_does_244 hm (by decide +kernel) hP hD hS
              · replace hm := ifn c34 hm
                by_cases c41 : x1 = (7 : Int32)
                · replace hm := ifp c41 hm
                  refine lv_tableIn (off := 218) (tgt := 245) hx hb dX6_does_27 (by rw [c41]; decide) (by rw [c41]; decide) (by rw [c41]; rfl) (by decide) ?_
                  refine lv_aload_n hx hb dX6_does_245 rfl (lv_at hl 1 rfl) ?_
                  refine lv_iload_n hx hb dX6_does_246 rfl (lv_at hl 3 rfl) ?_
                  obtain ⟨r42, e43, hm⟩ := bnd1_some hm
                  refine g_calli (w2 := (wd_6788f7 k n_t n_text n_readPage n_page n_trial n_book n_kept n_isKept n_seenStation n_seenOther n_seenWide n_seenWas n_sines n_at n_column n_gram n_right n_work v_thrown v_textSize v_place v_stations v_readStations v_doings v_seen v_seed v_wide v_up v_low r_trial r_sines r_at)) (va_runV (As := [.int x2]) (rest := []) ⟨hx, hb, hml, hown, hts⟩ (m_X6_noStation l dC dI k H.size n_t n_text n_readPage n_page n_trial n_book n_kept n_isKept n_seenStation n_seenOther n_seenWide n_seenWas n_sines n_at n_column n_gram n_right n_work v_thrown v_textSize v_place v_stations v_readStations v_doings v_seen v_seed v_wide v_up v_low x2 e43) (cwV 1 hts gX6_does_X6_noStation rfl rfl rfl (by decide +kernel) ⟨Nat.le_of_ble_eq_true rfl, Nat.le_of_ble_eq_true rfl⟩) (g_preV hG hP hD hS hA [0] rfl (by decide) (ci := 6) (q0 := 0) rfl rfl) rfl rfl hl.1 rfl (lv_room (Nat.le_of_ble_eq_true rfl)) dX6_does_247 ⟨Nat.le_of_ble_eq_true rfl, Nat.le_of_ble_eq_true rfl⟩) hP hD hS hA [0] [1, 2, 3] [3, 0, 1, 2] rfl rfl (by decide) (by decide) rfl (by decide) (fun H locs hP hD hS => ?_)
                  refine lv_if_ne (tgt := 301) hx hb dX6_does_250 (by decide) (fun c44 => ?_) (fun c44 => ?_)
                  · replace hm := ifn c44 hm
                    refine lv_iconst (v := (0 : Int32)) hx hb dX6_does_301 (by decide) ?_
                    exact RET _ _ _ _ _ _ _ dX6_does_302 hm (by decide +kernel) hP hD hS
                  · replace hm := ifp c44 hm
                    refine lv_iload_n hx hb dX6_does_253 rfl (lv_at hl 4 rfl) ?_
                    refine lv_if_le (tgt := 301) hx hb dX6_does_254 (by decide) (fun c45 => ?_) (fun c45 => ?_)
                    · replace hm := ifp c45 hm
                      refine lv_iconst (v := (0 : Int32)) hx hb dX6_does_301 (by decide) ?_
                      exact RET _ _ _ _ _ _ _ dX6_does_302 hm (by decide +kernel) hP hD hS
                    · replace hm := ifn c45 hm
                      refine lv_iload hx hb dX6_does_257 (lv_at hl 5 rfl) ?_
                      refine lv_iconst (v := (2 : Int32)) hx hb dX6_does_259 (by decide) ?_
                      refine lv_icmp_ge (tgt := 301) hx hb dX6_does_260 (by decide) (fun c46 => ?_) (fun c46 => ?_)
                      · replace hm := ifp c46 hm
                        refine lv_iconst (v := (0 : Int32)) hx hb dX6_does_301 (by decide) ?_
                        exact RET _ _ _ _ _ _ _ dX6_does_302 hm (by decide +kernel) hP hD hS
                      · replace hm := ifn c46 hm
                        refine lv_aload_n hx hb dX6_does_263 rfl (lv_at hl 1 rfl) ?_
                        refine lv_aload_n hx hb dX6_does_264 rfl (lv_at hl 1 rfl) ?_
                        refine va_get (D := (dC, dI)) (ci := 6) (v := .ref n_trial) (C := RX6) (T := TX6) (N := 28) hx hb hts hinX6 hown hG.1 hP 0 rfl rfl 8 (by decide) k0 (fun _ h9 => h9) rfl dX6_does_265 ?_
                        refine lv_aload_n hx hb dX6_does_268 rfl (lv_at hl 1 rfl) ?_
                        refine va_get (D := (dC, dI)) (ci := 6) (v := .ref n_trial) (C := RX6) (T := TX6) (N := 28) hx hb hts hinX6 hown hG.1 hP 0 rfl rfl 8 (by decide) k0 (fun _ h9 => h9) rfl dX6_does_269 ?_
                        obtain ⟨r47, e48, hm⟩ := bnd1_some hm
                        refine g_calli (w2 := (wd_6788f7 k n_t n_text n_readPage n_page n_trial n_book n_kept n_isKept n_seenStation n_seenOther n_seenWide n_seenWas n_sines n_at n_column n_gram n_right n_work v_thrown v_textSize v_place v_stations v_readStations v_doings v_seen v_seed v_wide v_up v_low r_trial r_sines r_at)) (va_runS (As := [.ref n_trial]) (rest := [.ref n_trial, .ref n_t]) ⟨hx, hb, hml, hown, hts⟩ (m_X6_openOnes l dC dI k H.size n_trial r_trial  e48) (va_cwS 1 hts gX6_does_X6_openOnes rfl rfl rfl (by decide +kernel) ⟨Nat.le_of_ble_eq_true rfl, Nat.le_of_ble_eq_true rfl⟩) (g_preS hG hP hD hS hA [1] rfl (by decide)) rfl rfl hl.1 rfl (lv_room (Nat.le_of_ble_eq_true rfl)) dX6_does_272 ⟨Nat.le_of_ble_eq_true rfl, Nat.le_of_ble_eq_true rfl⟩) hP hD hS hA [1] [0, 2, 3] [0, 3, 1, 2] rfl rfl (by decide) (by decide) rfl (by decide) (fun H locs hP hD hS => ?_)
                        refine lv_iload_n hx hb dX6_does_275 rfl (lv_at hl 4 rfl) ?_
                        obtain ⟨r49, e50, hm⟩ := bnd1_some hm
                        refine g_calli (w2 := (wd_6788f7 k n_t n_text n_readPage n_page n_trial n_book n_kept n_isKept n_seenStation n_seenOther n_seenWide n_seenWas n_sines n_at n_column n_gram n_right n_work v_thrown v_textSize v_place v_stations v_readStations v_doings v_seen v_seed v_wide v_up v_low r_trial r_sines r_at)) (va_runV (As := [.ref n_trial, .int r47, .int x3]) (rest := []) ⟨hx, hb, hml, hown, hts⟩ (m_X6_reached l dC dI k F H.size n_t n_trial n_text n_readPage n_page n_trial n_book n_kept n_isKept n_seenStation n_seenOther n_seenWide n_seenWas n_sines n_at n_column n_gram n_right n_work v_thrown v_textSize v_place v_stations v_readStations v_doings v_seen v_seed v_wide v_up v_low r_trial r47 x3 e50) (cwV 3 hts gX6_does_X6_reached rfl rfl rfl (by decide +kernel) ⟨Nat.le_of_ble_eq_true rfl, Nat.le_of_ble_eq_true rfl⟩) (g_preV hG hP hD hS hA [0, 1] rfl (by decide) (ci := 6) (q0 := 0) rfl rfl) rfl rfl hl.1 rfl (lv_room (Nat.le_of_ble_eq_true rfl)) dX6_does_276 ⟨Nat.le_of_ble_eq_true rfl, Nat.le_of_ble_eq_true rfl⟩) hP hD hS hA [0, 1] [2, 3] [2, 3, 0, 1] rfl rfl (by decide) (by decide) rfl (by decide) (fun H locs hP hD hS => ?_)
                        refine lv_iload_n hx hb dX6_does_279 rfl (lv_at hl 3 rfl) ?_
                        obtain ⟨r51, e52, hm⟩ := bnd1_some hm
                        refine g_calli (w2 := (wd_6788f7 k n_t n_text n_readPage n_page n_trial n_book n_kept n_isKept n_seenStation n_seenOther n_seenWide n_seenWas n_sines n_at n_column n_gram n_right n_work v_thrown v_textSize v_place v_stations v_readStations v_doings v_seen v_seed v_wide v_up v_low r_trial r_sines r_at)) (va_runS (As := [.int r49, .int x2]) (rest := []) ⟨hx, hb, hml, hown, hts⟩ (m_X6_has l dC dI k H.size  r49 x2 e52) (va_cwS 2 hts gX6_does_X6_has rfl rfl rfl (by decide +kernel) ⟨Nat.le_of_ble_eq_true rfl, Nat.le_of_ble_eq_true rfl⟩) (g_preS hG hP hD hS hA [] rfl (by decide)) rfl rfl hl.1 rfl (lv_room (Nat.le_of_ble_eq_true rfl)) dX6_does_280 ⟨Nat.le_of_ble_eq_true rfl, Nat.le_of_ble_eq_true rfl⟩) hP hD hS hA [] [0, 1, 2, 3] [0, 1, 2, 3] rfl rfl (by decide) (by decide) rfl (by decide) (fun H locs hP hD hS => ?_)
                        refine lv_iload hx hb dX6_does_283 (lv_at hl 5 rfl) ?_
                        refine lv_iconst (v := (1 : Int32)) hx hb dX6_does_285 (by decide) ?_
                        refine lv_icmp_ne (tgt := 293) hx hb dX6_does_286 (by decide) (fun c53 => ?_) (fun c53 => ?_)
                        · replace hm := ifn c53 hm
                          refine lv_iconst (v := (0 : Int32)) hx hb dX6_does_293 (by decide) ?_
                          exact J_294 _ _ _ _ _ _ _ (lv_sub hl [] rfl) hP hD hS hm
                        · replace hm := ifp c53 hm
                          refine lv_iconst (v := (1 : Int32)) hx hb dX6_does_289 (by decide) ?_
                          refine lv_goto (tgt := 294) hx hb dX6_does_290 (by decide) ?_
                          exact J_294 _ _ _ _ _ _ _ (lv_sub hl [] rfl) hP hD hS hm
                · replace hm := ifn c41 hm
                  refine lv_tableOut (tgt := 303) hx hb dX6_does_27 (by have qc2 := i32_ne c2 (z := 1) (by decide); have qc8 := i32_ne c8 (z := 2) (by decide); have qc13 := i32_ne c13 (z := 3) (by decide); have qc17 := i32_ne c17 (z := 4) (by decide); have qc29 := i32_ne c29 (z := 5) (by decide); have qc34 := i32_ne c34 (z := 6) (by decide); have qc41 := i32_ne c41 (z := 7) (by decide); omega) (by decide) ?_
                  refine lv_iconst (v := (0 : Int32)) hx hb dX6_does_303 (by decide) ?_
                  exact RET _ _ _ _ _ _ _ dX6_does_304 hm (by decide +kernel) hP hD hS
  unfold f_X6_does at hm
  refine lv_bipush (v := (10 : Int32)) hx hb dX6_does_0 (by decide) ?_
  refine lv_iload_n hx hb dX6_does_2 rfl (lv_at hl 3 rfl) ?_
  refine lv_imul hx hb dX6_does_3 ?_
  refine lv_iload hx hb dX6_does_4 (lv_at hl 4 rfl) ?_
  refine lv_iadd hx hb dX6_does_6 ?_
  refine lv_topi (fun t54 et54 => ?_)
  replace hm := (nmd_eq et54).trans hm
  refine lv_istore (lv' := [(5, .int t54), (0, .ref n_t), (1, .int x1), (2, .int x2), (3, .int x3), (4, .int x4)]) hx hb dX6_does_7 hl (by decide) rfl (fun ls hl => ?_)
  refine lv_iload_n hx hb dX6_does_9 rfl (lv_at hl 3 rfl) ?_
  refine lv_aload_n hx hb dX6_does_10 rfl (lv_at hl 1 rfl) ?_
  refine va_get (D := (dC, dI)) (ci := 6) (v := .ref n_trial) (C := RX6) (T := TX6) (N := 28) hx hb hts hinX6 hown hG.1 hP 0 rfl rfl 8 (by decide) k0 (fun _ h9 => h9) rfl dX6_does_11 ?_
  refine lv_iconst (v := (0 : Int32)) hx hb dX6_does_14 (by decide) ?_
  obtain ⟨hi55, hm⟩ := chk_some hm
  refine va_iald hx hb hG.1 hP 1 0 rfl rfl hi55 dX6_does_15 ?_
  refine lv_icmp_ge (tgt := 23) hx hb dX6_does_16 (by decide) (fun c56 => ?_) (fun c56 => ?_)
  · replace hm := ifp c56 hm
    refine lv_iconst (v := (0 : Int32)) hx hb dX6_does_23 (by decide) ?_
    exact J_24 _ _ _ _ _ _ _ _ _ _ _ (lv_sub hl [1, 2, 3, 4, 5, 0] rfl) hP hD hS hm
  · replace hm := ifn c56 hm
    refine lv_iconst (v := (1 : Int32)) hx hb dX6_does_19 (by decide) ?_
    refine lv_goto (tgt := 24) hx hb dX6_does_20 (by decide) ?_
    exact J_24 _ _ _ _ _ _ _ _ _ _ _ (lv_sub hl [1, 2, 3, 4, 5, 0] rfl) hP hD hS hm
set_option maxRecDepth 100000 in
theorem m_X6_does (l : Launch) (dC : Nat → ClassId) (dI : Nat → Nat → Nat) (k : Nat → ClassId) (F : Nat) (sz : Nat) (n_t n_text n_readPage n_page n_trial n_book n_kept n_isKept n_seenStation n_seenOther n_seenWide n_seenWas n_sines n_at n_column n_gram n_right n_work : Nat) (v_thrown : Int32) (v_textSize : Int32) (v_place : Int32) (v_stations : Int32) (v_readStations : Int32) (v_doings : Int32) (v_seen : Int32) (v_seed : Int64) (v_wide : Int32) (v_up : Int64) (v_low : Int64) (r_trial : Nat → Int32) (r_sines : Nat → Int32) (r_at : Nat → Int32) (x1 : Int32) (x2 : Int32) (x3 : Int32) (x4 : Int32) {o_r : Int32} {o_r_trial : (Nat → Int32)} {o_r_at : (Nat → Int32)} (hm : f_X6_does F x1 x2 x3 x4 v_stations r_trial r_sines r_at = some (o_r, o_r_trial, o_r_at)) : Met l yX6_does wsX6_does rm_X6_does (gPre dC dI k [.ref n_t, .int x1, .int x2, .int x3, .int x4] sz (wd_6788f7 k n_t n_text n_readPage n_page n_trial n_book n_kept n_isKept n_seenStation n_seenOther n_seenWide n_seenWas n_sines n_at n_column n_gram n_right n_work v_thrown v_textSize v_place v_stations v_readStations v_doings v_seen v_seed v_wide v_up v_low r_trial r_sines r_at)) (gQI dC dI (va_A (wd_6788f7 k n_t n_text n_readPage n_page n_trial n_book n_kept n_isKept n_seenStation n_seenOther n_seenWide n_seenWas n_sines n_at n_column n_gram n_right n_work v_thrown v_textSize v_place v_stations v_readStations v_doings v_seen v_seed v_wide v_up v_low r_trial r_sines r_at) sz) o_r (wd_6788f7 k n_t n_text n_readPage n_page n_trial n_book n_kept n_isKept n_seenStation n_seenOther n_seenWide n_seenWas n_sines n_at n_column n_gram n_right n_work v_thrown v_textSize v_place v_stations v_readStations v_doings v_seen v_seed v_wide v_up v_low o_r_trial r_sines o_r_at)) 0 0 (va_A (wd_6788f7 k n_t n_text n_readPage n_page n_trial n_book n_kept n_isKept n_seenStation n_seenOther n_seenWide n_seenWas n_sines n_at n_column n_gram n_right n_work v_thrown v_textSize v_place v_stations v_readStations v_doings v_seen v_seed v_wide v_up v_low r_trial r_sines r_at) sz) := by
  refine g_entry (cc := cX6_does) (maxL := 7) (ret := (some .boolean)) (lv := [(0, .ref n_t), (1, .int x1), (2, .int x2), (3, .int x3), (4, .int x4)]) (by decide +kernel) rfl (Nat.le_of_ble_eq_true rfl) rfl (fun p e s m below meth c ls hx hb hr hml hts hown hlk hnm hsz hG hA hP hD hS hl => ?_)
  exact k_X6_does hx hb hml hts hown hG hA F n_t n_text n_readPage n_page n_trial n_book n_kept n_isKept n_seenStation n_seenOther n_seenWide n_seenWas n_sines n_at n_column n_gram n_right n_work v_thrown v_textSize v_place v_stations v_readStations v_doings v_seen v_seed v_wide v_up v_low r_trial r_sines r_at x1 x2 x3 x4 o_r o_r_trial o_r_at (fun pc H locs ls v q_r_trial q_r_at hd ho hz hP hD hS => by cases ho; exact g_iretz hx hb hr hlk hP hD hS hz hd) s.heap [] ls hl hP hD hS hm
end
section
set_option maxHeartbeats 4000000 in
set_option maxRecDepth 100000 in
theorem k_X6_longPower {p : Program} {l : Launch} {e : Env} {s : State} {m : MethodId} {args : Array Value} {below : List Frame} {meth : Method} {c : Code} {A : Nat → Prop} {Q : State → Prop} {dC : Nat → ClassId} {dI : Nat → Nat → Nat} {k : Nat → ClassId} (hx : p.tables.exec = Jvm.exec) (hb : c.code = cX6_longPower) (hml : c.maxLocals = 6) (hts : ∀ w ∈ wsX6_longPower, w.before args s = true) (hown : s.vm.findClass RX6 = some m.cls) (hG : gK dC dI k A s) (hA : ∀ q : Nat, s.heap.size ≤ q → A q) (F : Nat)  (x0 : Int64) (x2 : Int32) (o_r : Int64) (RET : ∀ (pc : Nat) (H : Heap) (locs : List Loc) (ls : Array Slot) (v : Int64), decode cX6_longPower pc = .ok (.lreturn, 1) → some v = some o_r → va_P (dC, dI) vwCl [] H → va_D A [] → va_S A s.heap H locs → W p l e rm_X6_longPower s m args below meth c H locs 0 0 Q (F0 m pc ls [.long v])) (H : Heap) (locs : List Loc) (ls : Array Slot) (hl : lv_has ls 6 [(0, .long x0), (2, .int x2)]) (hP : va_P (dC, dI) vwCl [] H) (hD : va_D A []) (hS : va_S A s.heap H locs) (hm : f_X6_longPower F x0 x2 = some o_r) : W p l e rm_X6_longPower s m args below meth c H locs 0 0 Q (F0 m 0 ls []) := by
  have L_5 : ∀ (n5 : Nat) (x0 : Int64) (x2 : Int32) (x3 : Int64) (x5 : Int32) (H : Heap) (locs : List Loc) (ls : Array Slot), lv_has ls 6 [(0, .long x0), (2, .int x2), (3, .long x3), (5, .int x5)] → va_P (dC, dI) vwCl [] H → va_D A [] → va_S A s.heap H locs → f_X6_longPower_L5 F n5 x0 x2 x3 x5 = some o_r → W p l e rm_X6_longPower s m args below meth c H locs 0 0 Q (F0 m 5 ls []) := by
    intro n5
    induction n5 with
    | zero =>
      intro x0 x2 x3 x5 H locs ls hl hP hD hS hm
      exact non_some hm
    | succ n5 ih5 =>
      intro x0 x2 x3 x5 H locs ls hl hP hD hS hm
      replace hm : f_X6_longPower_B5 F (f_X6_longPower_L5 F n5) x0 x2 x3 x5 = some o_r := hm
      unfold f_X6_longPower_B5 at hm
      refine lv_iload hx hb dX6_longPower_5 (lv_at hl 3 rfl) ?_
      refine lv_iload_n hx hb dX6_longPower_7 rfl (lv_at hl 1 rfl) ?_
      refine lv_icmp_ge (tgt := 21) hx hb dX6_longPower_8 (by decide) (fun c1 => ?_) (fun c1 => ?_)
      · replace hm := ifp c1 hm
        refine lv_lload_n hx hb dX6_longPower_21 rfl (lv_at hl 2 rfl) ?_
        exact RET _ _ _ _ _ dX6_longPower_22 hm hP hD hS
      · replace hm := ifn c1 hm
        refine lv_lload_n hx hb dX6_longPower_11 rfl (lv_at hl 2 rfl) ?_
        refine lv_lload_n hx hb dX6_longPower_12 rfl (lv_at hl 0 rfl) ?_
        refine lv_lmul hx hb dX6_longPower_13 ?_
        refine lv_topl (fun t2 et2 => ?_)
        replace hm := (nmd_eq et2).trans hm
        refine lv_lstore_n (lv' := [(3, .long t2), (0, .long x0), (2, .int x2), (5, .int x5)]) hx hb dX6_longPower_14 rfl hl (by decide) rfl (fun ls hl => ?_)
        obtain ⟨t3, et3⟩ : ∃ y : Int32, y = x5 + (1 : Int32) := ⟨_, rfl⟩
        replace hm := (nmd_eq et3).trans hm
        refine lv_iinc (v := t3) (lv' := [(5, .int t3), (3, .long t2), (0, .long x0), (2, .int x2)]) hx hb dX6_longPower_15 hl (k := 3) rfl (by rw [et3]; rfl) (by decide) rfl (fun ls hl => ?_)
        refine lv_goto (tgt := 5) hx hb dX6_longPower_18 (by decide) ?_
        exact ih5 _ _ _ _ _ _ _ (lv_sub hl [2, 3, 1, 0] rfl) hP hD hS hm
  unfold f_X6_longPower at hm
  refine lv_lconst (v := (1 : Int64)) hx hb dX6_longPower_0 (by decide) ?_
  refine lv_lstore_n (lv' := [(3, .long (1 : Int64)), (0, .long x0), (2, .int x2)]) hx hb dX6_longPower_1 rfl hl (by decide) rfl (fun ls hl => ?_)
  refine lv_iconst (v := (0 : Int32)) hx hb dX6_longPower_2 (by decide) ?_
  refine lv_istore (lv' := [(5, .int (0 : Int32)), (3, .long (1 : Int64)), (0, .long x0), (2, .int x2)]) hx hb dX6_longPower_3 hl (by decide) rfl (fun ls hl => ?_)
  exact L_5 F _ _ _ _ _ _ _ (lv_sub hl [2, 3, 1, 0] rfl) hP hD hS hm
set_option maxRecDepth 100000 in
theorem m_X6_longPower (l : Launch) (dC : Nat → ClassId) (dI : Nat → Nat → Nat) (k : Nat → ClassId) (F : Nat) (sz : Nat)  (x0 : Int64) (x2 : Int32) {o_r : Int64} (hm : f_X6_longPower F x0 x2 = some o_r) : Met l yX6_longPower wsX6_longPower rm_X6_longPower (gPre dC dI k [.long x0, .int x2] sz []) (gQL dC dI (va_A [] sz) o_r []) 0 0 (va_A [] sz) := by
  refine g_entry (cc := cX6_longPower) (maxL := 6) (ret := (some .long)) (lv := [(0, .long x0), (2, .int x2)]) (by decide +kernel) rfl (Nat.le_of_ble_eq_true rfl) rfl (fun p e s m below meth c ls hx hb hr hml hts hown hlk hnm hsz hG hA hP hD hS hl => ?_)
  exact k_X6_longPower hx hb hml hts hown hG hA F x0 x2 o_r (fun pc H locs ls v hd ho hP hD hS => by cases ho; exact g_lret hx hb hr hlk hP hD hS hd) s.heap [] ls hl hP hD hS hm
end
