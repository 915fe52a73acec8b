section
set_option maxHeartbeats 4000000 in
set_option maxRecDepth 100000 in
theorem k_X6_judge {p : Program} {l : Launch} {e : Env} {s : State} {m : MethodId} {args : Array Value} {below : List Frame} {meth : Method} {c : Code} {A : Nat → Prop} {Q : State → Prop} {dC : Nat → ClassId} {dI : Nat → Nat → Nat} {k : Nat → ClassId} (hx : p.tables.exec = Jvm.exec) (hb : c.code = cX6_judge) (hml : c.maxLocals = 6) (hts : ∀ w ∈ wsX6_judge, w.before args s = true) (hown : s.vm.findClass RX6 = some m.cls) (hG : gK dC dI k A s) (hA : ∀ q : Nat, s.heap.size ≤ q → A q) (F : Nat) (n_t n_text n_readPage n_page n_trial n_book n_kept n_isKept n_seenStation n_seenOther n_seenWide n_seenWas n_sines n_at n_column n_gram n_right n_work : Nat) (v_thrown : Int32) (v_textSize : Int32) (v_place : Int32) (v_stations : Int32) (v_readStations : Int32) (v_doings : Int32) (v_seen : Int32) (v_seed : Int64) (v_wide : Int32) (v_up : Int64) (v_low : Int64) (r_page : Nat → Int32) (r_trial : Nat → Int32) (r_sines : Nat → Int32) (r_at : Nat → Int32) (x1 : Int32) (x2 : Int64) (o_r : Int32) (o_v_thrown : (Int32)) (o_r_trial : (Nat → Int32)) (o_r_at : (Nat → Int32)) (RET : ∀ (pc : Nat) (H : Heap) (locs : List Loc) (ls : Array Slot) (v : Int32) (q_v_thrown : Int32) (q_r_trial : Nat → Int32) (q_r_at : Nat → Int32), decode cX6_judge pc = .ok (.ireturn, 1) → some (v, q_v_thrown, q_r_trial, q_r_at) = some (o_r, o_v_thrown, o_r_trial, o_r_at) → va_P (dC, dI) vwCl (wd_d50dca k n_t n_text n_readPage n_page n_trial n_book n_kept n_isKept n_seenStation n_seenOther n_seenWide n_seenWas n_sines n_at n_column n_gram n_right n_work q_v_thrown v_textSize v_place v_stations v_readStations v_doings v_seen v_seed v_wide v_up v_low r_page q_r_trial r_sines q_r_at) H → va_D A (wd_d50dca k n_t n_text n_readPage n_page n_trial n_book n_kept n_isKept n_seenStation n_seenOther n_seenWide n_seenWas n_sines n_at n_column n_gram n_right n_work q_v_thrown v_textSize v_place v_stations v_readStations v_doings v_seen v_seed v_wide v_up v_low r_page q_r_trial r_sines q_r_at) → va_S A s.heap H locs → W p l e rm_X6_judge s m args below meth c H locs 0 0 Q (F0 m pc ls [.int v])) (H : Heap) (locs : List Loc) (ls : Array Slot) (hl : lv_has ls 6 [(0, .ref n_t), (1, .int x1), (2, .long x2)]) (hP : va_P (dC, dI) vwCl (wd_d50dca k n_t n_text n_readPage n_page n_trial n_book n_kept n_isKept n_seenStation n_seenOther n_seenWide n_seenWas n_sines n_at n_column n_gram n_right n_work v_thrown v_textSize v_place v_stations v_readStations v_doings v_seen v_seed v_wide v_up v_low r_page r_trial r_sines r_at) H) (hD : va_D A (wd_d50dca k n_t n_text n_readPage n_page n_trial n_book n_kept n_isKept n_seenStation n_seenOther n_seenWide n_seenWas n_sines n_at n_column n_gram n_right n_work v_thrown v_textSize v_place v_stations v_readStations v_doings v_seen v_seed v_wide v_up v_low r_page r_trial r_sines r_at)) (hS : va_S A s.heap H locs) (hm : f_X6_judge F x1 x2 v_thrown v_stations r_page r_trial r_sines r_at = some (o_r, o_v_thrown, o_r_trial, o_r_at)) : W p l e rm_X6_judge s m args below meth c H locs 0 0 Q (F0 m 0 ls []) := by
  have hinX6 : ∀ w ∈ u_ws RX6 TX6 28, w ∈ wsX6_judge := by decide +kernel
  have k0 := hts (.constantLong RX6 245 (10000)) (by decide +kernel)
  have k1 := hts (.fieldLink RX6 67 "CaveLegsModel" "thrown" "I") (by decide +kernel)
  have k2 := hts (.constantLong RX6 126 (4)) (by decide +kernel)
  have L_44 : ∀ (n44 : Nat) (v_thrown : Int32) (r_trial : Nat → Int32) (r_at : Nat → Int32) (x1 : Int32) (x2 : Int64) (x4 : Int32) (H : Heap) (locs : List Loc) (ls : Array Slot), lv_has ls 6 [(0, .ref n_t), (1, .int x1), (2, .long x2), (4, .int x4)] → va_P (dC, dI) vwCl (wd_d50dca k n_t n_text n_readPage n_page n_trial n_book n_kept n_isKept n_seenStation n_seenOther n_seenWide n_seenWas n_sines n_at n_column n_gram n_right n_work v_thrown v_textSize v_place v_stations v_readStations v_doings v_seen v_seed v_wide v_up v_low r_page r_trial r_sines r_at) H → va_D A (wd_d50dca k n_t n_text n_readPage n_page n_trial n_book n_kept n_isKept n_seenStation n_seenOther n_seenWide n_seenWas n_sines n_at n_column n_gram n_right n_work v_thrown v_textSize v_place v_stations v_readStations v_doings v_seen v_seed v_wide v_up v_low r_page r_trial r_sines r_at) → va_S A s.heap H locs → f_X6_judge_L44 F v_stations r_page r_sines n44 v_thrown r_trial r_at x1 x2 x4 = some (o_r, o_v_thrown, o_r_trial, o_r_at) → W p l e rm_X6_judge s m args below meth c H locs 0 0 Q (F0 m 44 ls []) := by
    intro n44
    induction n44 with
    | zero =>
      intro v_thrown r_trial r_at x1 x2 x4 H locs ls hl hP hD hS hm
      exact non_some hm
    | succ n44 ih44 =>
      intro v_thrown r_trial r_at x1 x2 x4 H locs ls hl hP hD hS hm
      replace hm : f_X6_judge_B44 F v_stations r_page r_sines (f_X6_judge_L44 F v_stations r_page r_sines n44) v_thrown r_trial r_at x1 x2 x4 = some (o_r, o_v_thrown, o_r_trial, o_r_at) := hm
      unfold f_X6_judge_B44 at hm
      refine lv_iload hx hb dX6_judge_44 (lv_at hl 3 rfl) ?_
      refine lv_iload_n hx hb dX6_judge_46 rfl (lv_at hl 1 rfl) ?_
      refine lv_icmp_ge (tgt := 114) hx hb dX6_judge_47 (by decide) (fun c1 => ?_) (fun c1 => ?_)
      · replace hm := ifp c1 hm
        refine lv_bipush (v := (-9 : Int32)) hx hb dX6_judge_114 (by decide) ?_
        exact RET _ _ _ _ _ _ _ _ dX6_judge_116 hm hP hD hS
      · replace hm := ifn c1 hm
        refine lv_lload_n hx hb dX6_judge_50 rfl (lv_at hl 2 rfl) ?_
        refine lv_ldc2 (v := (10000 : Int64)) hx hb hown k0 dX6_judge_51 ?_
        refine lv_iload_n hx hb dX6_judge_54 rfl (lv_at hl 1 rfl) ?_
        refine lv_iconst (v := (1 : Int32)) hx hb dX6_judge_55 (by decide) ?_
        refine lv_isub hx hb dX6_judge_56 ?_
        refine lv_iload hx hb dX6_judge_57 (lv_at hl 3 rfl) ?_
        refine lv_isub hx hb dX6_judge_59 ?_
        obtain ⟨r2, e3, hm⟩ := bnd1_some hm
        refine g_calll (w2 := (wd_d50dca k n_t n_text n_readPage n_page n_trial n_book n_kept n_isKept n_seenStation n_seenOther n_seenWide n_seenWas n_sines n_at n_column n_gram n_right n_work v_thrown v_textSize v_place v_stations v_readStations v_doings v_seen v_seed v_wide v_up v_low r_page r_trial r_sines r_at)) (va_runS (As := [.long (10000 : Int64), .int ((x1 - (1 : Int32)) - x4)]) (rest := [.long x2]) ⟨hx, hb, hml, hown, hts⟩ (m_X6_longPower l dC dI k F H.size  (10000 : Int64) ((x1 - (1 : Int32)) - x4) e3) (va_cwS 2 hts gX6_judge_X6_longPower rfl rfl rfl (by decide +kernel) ⟨Nat.le_of_ble_eq_true rfl, Nat.le_of_ble_eq_true rfl⟩) (g_preS hG hP hD hS hA [] rfl (by decide)) rfl rfl hl.1 rfl (lv_room (Nat.le_of_ble_eq_true rfl)) dX6_judge_60 ⟨Nat.le_of_ble_eq_true rfl, Nat.le_of_ble_eq_true rfl⟩) hP hD hS hA [] [0, 1, 2, 3, 4] [0, 1, 2, 3, 4] rfl rfl (by decide) (by decide) rfl (by decide) (fun H locs hP hD hS => ?_)
        obtain ⟨hz4, hm⟩ := chkDL_some hm
        refine lv_ldiv hx hb dX6_judge_63 hz4 ?_
        refine lv_ldc2 (v := (10000 : Int64)) hx hb hown k0 dX6_judge_64 ?_
        refine g_lrem hx hb dX6_judge_67 (by decide) ?_
        refine g_l2i hx hb dX6_judge_68 ?_
        refine lv_topi (fun t5 et5 => ?_)
        replace hm := (nmd_eq et5).trans hm
        refine lv_istore (lv' := [(5, .int t5), (0, .ref n_t), (1, .int x1), (2, .long x2), (4, .int x4)]) hx hb dX6_judge_69 hl (by decide) rfl (fun ls hl => ?_)
        refine lv_aload_n hx hb dX6_judge_71 rfl (lv_at hl 1 rfl) ?_
        refine lv_iload hx hb dX6_judge_72 (lv_at hl 0 rfl) ?_
        refine lv_sipush (v := (1000 : Int32)) hx hb dX6_judge_74 (by decide) ?_
        refine lv_idiv hx hb dX6_judge_77 (by decide) ?_
        refine lv_iload hx hb dX6_judge_78 (lv_at hl 0 rfl) ?_
        refine lv_bipush (v := (100 : Int32)) hx hb dX6_judge_80 (by decide) ?_
        refine lv_idiv hx hb dX6_judge_82 (by decide) ?_
        refine lv_bipush (v := (10 : Int32)) hx hb dX6_judge_83 (by decide) ?_
        refine g_irem hx hb dX6_judge_85 (by decide) ?_
        refine lv_iload hx hb dX6_judge_86 (lv_at hl 0 rfl) ?_
        refine lv_bipush (v := (10 : Int32)) hx hb dX6_judge_88 (by decide) ?_
        refine lv_idiv hx hb dX6_judge_90 (by decide) ?_
        refine lv_bipush (v := (10 : Int32)) hx hb dX6_judge_91 (by decide) ?_
        refine g_irem hx hb dX6_judge_93 (by decide) ?_
        refine lv_iload hx hb dX6_judge_94 (lv_at hl 0 rfl) ?_
        refine lv_bipush (v := (10 : Int32)) hx hb dX6_judge_96 (by decide) ?_
        refine g_irem hx hb dX6_judge_98 (by decide) ?_
        obtain ⟨r6, w7, w8, e9, hm⟩ := bnd3_some hm
        refine g_calli (w2 := (wd_d50dca k n_t n_text n_readPage n_page n_trial n_book n_kept n_isKept n_seenStation n_seenOther n_seenWide n_seenWas n_sines n_at n_column n_gram n_right n_work v_thrown v_textSize v_place v_stations v_readStations v_doings v_seen v_seed v_wide v_up v_low r_page w7 r_sines w8)) (va_runV (As := [.int (t5 / (1000 : Int32)), .int (remI (t5 / (100 : Int32)) (10 : Int32)), .int (remI (t5 / (10 : Int32)) (10 : Int32)), .int (remI t5 (10 : Int32))]) (rest := []) ⟨hx, hb, hml, hown, hts⟩ (m_X6_does l dC dI k F H.size n_t n_text n_readPage n_page n_trial n_book n_kept n_isKept n_seenStation n_seenOther n_seenWide n_seenWas n_sines n_at n_column n_gram n_right n_work v_thrown v_textSize v_place v_stations v_readStations v_doings v_seen v_seed v_wide v_up v_low r_trial r_sines r_at (t5 / (1000 : Int32)) (remI (t5 / (100 : Int32)) (10 : Int32)) (remI (t5 / (10 : Int32)) (10 : Int32)) (remI t5 (10 : Int32)) e9) (cwV 4 hts gX6_judge_X6_does rfl rfl rfl (by decide +kernel) ⟨Nat.le_of_ble_eq_true rfl, Nat.le_of_ble_eq_true rfl⟩) (g_preV hG hP hD hS hA [0, 2, 3, 4] rfl (by decide) (ci := 6) (q0 := 0) rfl rfl) rfl rfl hl.1 rfl (lv_room (Nat.le_of_ble_eq_true rfl)) dX6_judge_99 ⟨Nat.le_of_ble_eq_true rfl, Nat.le_of_ble_eq_true rfl⟩) hP hD hS hA [0, 2, 3, 4] [1] [1, 0, 2, 3, 4] rfl rfl (by decide) (by decide) rfl (by decide) (fun H locs hP hD hS => ?_)
        refine lv_if_ne (tgt := 108) hx hb dX6_judge_102 (by decide) (fun c10 => ?_) (fun c10 => ?_)
        · replace hm := ifn c10 hm
          obtain ⟨t11, et11⟩ : ∃ y : Int32, y = x4 + (1 : Int32) := ⟨_, rfl⟩
          replace hm := (nmd_eq et11).trans hm
          refine lv_iinc (v := t11) (lv' := [(4, .int t11), (5, .int t5), (0, .ref n_t), (1, .int x1), (2, .long x2)]) hx hb dX6_judge_108 hl (k := 4) rfl (by rw [et11]; rfl) (by decide) rfl (fun ls hl => ?_)
          refine lv_goto (tgt := 44) hx hb dX6_judge_111 (by decide) ?_
          exact ih44 _ _ _ _ _ _ _ _ _ (lv_sub hl [2, 3, 4, 0] rfl) hP hD hS hm
        · replace hm := ifp c10 hm
          refine lv_iload hx hb dX6_judge_105 (lv_at hl 4 rfl) ?_
          exact RET _ _ _ _ _ _ _ _ dX6_judge_107 hm hP hD hS
  unfold f_X6_judge at hm
  refine lv_aload_n hx hb dX6_judge_0 rfl (lv_at hl 0 rfl) ?_
  refine lv_iconst (v := (0 : Int32)) hx hb dX6_judge_1 (by decide) ?_
  refine va_put (D := (dC, dI)) (ci := 6) (v := .int (0 : Int32)) (ty := .int) (C := RX6) (T := TX6) (N := 28) hx hb hts hinX6 tyX6 tyX6_ok nmX6 hown hG.1 hP hD hS 0 rfl rfl 0 (by decide) k1 (fun _ h9 => h9) rfl (by decide +kernel) rfl rfl (Nat.le_of_ble_eq_true rfl) dX6_judge_2 (fun H locs hP hD hS => ?_)
  replace hP : va_P (dC, dI) vwCl (wd_d50dca k n_t n_text n_readPage n_page n_trial n_book n_kept n_isKept n_seenStation n_seenOther n_seenWide n_seenWas n_sines n_at n_column n_gram n_right n_work (0 : Int32) v_textSize v_place v_stations v_readStations v_doings v_seen v_seed v_wide v_up v_low r_page r_trial r_sines r_at) H := hP
  replace hD : va_D A (wd_d50dca k n_t n_text n_readPage n_page n_trial n_book n_kept n_isKept n_seenStation n_seenOther n_seenWide n_seenWas n_sines n_at n_column n_gram n_right n_work (0 : Int32) v_textSize v_place v_stations v_readStations v_doings v_seen v_seed v_wide v_up v_low r_page r_trial r_sines r_at) := hD
  refine lv_iload_n hx hb dX6_judge_5 rfl (lv_at hl 1 rfl) ?_
  refine g_i2l hx hb dX6_judge_6 ?_
  refine lv_lconst (v := (1 : Int64)) hx hb dX6_judge_7 (by decide) ?_
  refine lv_ldc2 (v := (4 : Int64)) hx hb hown k2 dX6_judge_8 ?_
  obtain ⟨r12, e13, hm⟩ := bnd1_some hm
  refine g_calli (w2 := (wd_d50dca k n_t n_text n_readPage n_page n_trial n_book n_kept n_isKept n_seenStation n_seenOther n_seenWide n_seenWas n_sines n_at n_column n_gram n_right n_work (0 : Int32) v_textSize v_place v_stations v_readStations v_doings v_seen v_seed v_wide v_up v_low r_page r_trial r_sines r_at)) (va_runS (As := [.long (Int32.toInt64 x1), .long (1 : Int64), .long (4 : Int64)]) (rest := []) ⟨hx, hb, hml, hown, hts⟩ (m_X6_in l dC dI k H.size  (Int32.toInt64 x1) (1 : Int64) (4 : Int64) e13) (va_cwS 3 hts gX6_judge_X6_in rfl rfl rfl (by decide +kernel) ⟨Nat.le_of_ble_eq_true rfl, Nat.le_of_ble_eq_true rfl⟩) (g_preS hG hP hD hS hA [] rfl (by decide)) rfl rfl hl.1 rfl (lv_room (Nat.le_of_ble_eq_true rfl)) dX6_judge_11 ⟨Nat.le_of_ble_eq_true rfl, Nat.le_of_ble_eq_true rfl⟩) hP hD hS hA [] [0, 1, 2, 3, 4] [0, 1, 2, 3, 4] rfl rfl (by decide) (by decide) rfl (by decide) (fun H locs hP hD hS => ?_)
  refine lv_if_eq (tgt := 34) hx hb dX6_judge_14 (by decide) (fun c14 => ?_) (fun c14 => ?_)
  · replace hm := ifp c14 hm
    refine lv_bipush (v := (-2 : Int32)) hx hb dX6_judge_34 (by decide) ?_
    exact RET _ _ _ _ _ _ _ _ dX6_judge_36 hm hP hD hS
  · replace hm := ifn c14 hm
    refine lv_lload_n hx hb dX6_judge_17 rfl (lv_at hl 2 rfl) ?_
    refine lv_lconst (v := (0 : Int64)) hx hb dX6_judge_18 (by decide) ?_
    refine lv_ldc2 (v := (10000 : Int64)) hx hb hown k0 dX6_judge_19 ?_
    refine lv_iload_n hx hb dX6_judge_22 rfl (lv_at hl 1 rfl) ?_
    obtain ⟨r15, e16, hm⟩ := bnd1_some hm
    refine g_calll (w2 := (wd_d50dca k n_t n_text n_readPage n_page n_trial n_book n_kept n_isKept n_seenStation n_seenOther n_seenWide n_seenWas n_sines n_at n_column n_gram n_right n_work (0 : Int32) v_textSize v_place v_stations v_readStations v_doings v_seen v_seed v_wide v_up v_low r_page r_trial r_sines r_at)) (va_runS (As := [.long (10000 : Int64), .int x1]) (rest := [.long (0 : Int64), .long x2]) ⟨hx, hb, hml, hown, hts⟩ (m_X6_longPower l dC dI k F H.size  (10000 : Int64) x1 e16) (va_cwS 2 hts gX6_judge_X6_longPower rfl rfl rfl (by decide +kernel) ⟨Nat.le_of_ble_eq_true rfl, Nat.le_of_ble_eq_true rfl⟩) (g_preS hG hP hD hS hA [] rfl (by decide)) rfl rfl hl.1 rfl (lv_room (Nat.le_of_ble_eq_true rfl)) dX6_judge_23 ⟨Nat.le_of_ble_eq_true rfl, Nat.le_of_ble_eq_true rfl⟩) hP hD hS hA [] [0, 1, 2, 3, 4] [0, 1, 2, 3, 4] rfl rfl (by decide) (by decide) rfl (by decide) (fun H locs hP hD hS => ?_)
    refine lv_lconst (v := (1 : Int64)) hx hb dX6_judge_26 (by decide) ?_
    refine lv_lsub hx hb dX6_judge_27 ?_
    obtain ⟨r17, e18, hm⟩ := bnd1_some hm
    refine g_calli (w2 := (wd_d50dca k n_t n_text n_readPage n_page n_trial n_book n_kept n_isKept n_seenStation n_seenOther n_seenWide n_seenWas n_sines n_at n_column n_gram n_right n_work (0 : Int32) v_textSize v_place v_stations v_readStations v_doings v_seen v_seed v_wide v_up v_low r_page r_trial r_sines r_at)) (va_runS (As := [.long x2, .long (0 : Int64), .long (r15 - (1 : Int64))]) (rest := []) ⟨hx, hb, hml, hown, hts⟩ (m_X6_in l dC dI k H.size  x2 (0 : Int64) (r15 - (1 : Int64)) e18) (va_cwS 3 hts gX6_judge_X6_in rfl rfl rfl (by decide +kernel) ⟨Nat.le_of_ble_eq_true rfl, Nat.le_of_ble_eq_true rfl⟩) (g_preS hG hP hD hS hA [] rfl (by decide)) rfl rfl hl.1 rfl (lv_room (Nat.le_of_ble_eq_true rfl)) dX6_judge_28 ⟨Nat.le_of_ble_eq_true rfl, Nat.le_of_ble_eq_true rfl⟩) hP hD hS hA [] [0, 1, 2, 3, 4] [0, 1, 2, 3, 4] rfl rfl (by decide) (by decide) rfl (by decide) (fun H locs hP hD hS => ?_)
    refine lv_if_ne (tgt := 37) hx hb dX6_judge_31 (by decide) (fun c19 => ?_) (fun c19 => ?_)
    · replace hm := ifn c19 hm
      refine lv_aload_n hx hb dX6_judge_37 rfl (lv_at hl 0 rfl) ?_
      obtain ⟨w20, e21, hm⟩ := bnd1_some hm
      refine g_callv (w2 := (wd_d50dca k n_t n_text n_readPage n_page n_trial n_book n_kept n_isKept n_seenStation n_seenOther n_seenWide n_seenWas n_sines n_at n_column n_gram n_right n_work (0 : Int32) v_textSize v_place v_stations v_readStations v_doings v_seen v_seed v_wide v_up v_low r_page w20 r_sines r_at)) (va_runV (As := []) (rest := []) ⟨hx, hb, hml, hown, hts⟩ (m_X6_layTrial l dC dI k F H.size n_t n_text n_readPage n_page n_trial n_book n_kept n_isKept n_seenStation n_seenOther n_seenWide n_seenWas n_sines n_at n_column n_gram n_right n_work (0 : Int32) v_textSize v_place v_stations v_readStations v_doings v_seen v_seed v_wide v_up v_low r_page r_trial  e21) (cwV 0 hts gX6_judge_X6_layTrial rfl rfl rfl (by decide +kernel) ⟨Nat.le_of_ble_eq_true rfl, Nat.le_of_ble_eq_true rfl⟩) (g_preV hG hP hD hS hA [0, 1, 2] rfl (by decide) (ci := 6) (q0 := 0) rfl rfl) rfl rfl hl.1 rfl (lv_room (Nat.le_of_ble_eq_true rfl)) dX6_judge_38 ⟨Nat.le_of_ble_eq_true rfl, Nat.le_of_ble_eq_true rfl⟩) hP hD hS hA [0, 1, 2] [3, 4] [2, 3, 4, 0, 1] rfl rfl (by decide) (by decide) rfl (by decide) (fun H locs hP hD hS => ?_)
      refine lv_iconst (v := (0 : Int32)) hx hb dX6_judge_41 (by decide) ?_
      refine lv_istore (lv' := [(4, .int (0 : Int32)), (0, .ref n_t), (1, .int x1), (2, .long x2)]) hx hb dX6_judge_42 hl (by decide) rfl (fun ls hl => ?_)
      exact L_44 F _ _ _ _ _ _ _ _ _ (lv_sub hl [1, 2, 3, 0] rfl) hP hD hS hm
    · replace hm := ifp c19 hm
      refine lv_bipush (v := (-2 : Int32)) hx hb dX6_judge_34 (by decide) ?_
      exact RET _ _ _ _ _ _ _ _ dX6_judge_36 hm hP hD hS
set_option maxRecDepth 100000 in
theorem m_X6_judge (l : Launch) (dC : Nat → ClassId) (dI : Nat → Nat → Nat) (k : Nat → ClassId) (F : Nat) (sz : Nat) (n_t n_text n_readPage n_page n_trial n_book n_kept n_isKept n_seenStation n_seenOther n_seenWide n_seenWas n_sines n_at n_column n_gram n_right n_work : Nat) (v_thrown : Int32) (v_textSize : Int32) (v_place : Int32) (v_stations : Int32) (v_readStations : Int32) (v_doings : Int32) (v_seen : Int32) (v_seed : Int64) (v_wide : Int32) (v_up : Int64) (v_low : Int64) (r_page : Nat → Int32) (r_trial : Nat → Int32) (r_sines : Nat → Int32) (r_at : Nat → Int32) (x1 : Int32) (x2 : Int64) {o_r : Int32} {o_v_thrown : (Int32)} {o_r_trial : (Nat → Int32)} {o_r_at : (Nat → Int32)} (hm : f_X6_judge F x1 x2 v_thrown v_stations r_page r_trial r_sines r_at = some (o_r, o_v_thrown, o_r_trial, o_r_at)) : Met l yX6_judge wsX6_judge rm_X6_judge (gPre dC dI k [.ref n_t, .int x1, .long x2] sz (wd_d50dca k n_t n_text n_readPage n_page n_trial n_book n_kept n_isKept n_seenStation n_seenOther n_seenWide n_seenWas n_sines n_at n_column n_gram n_right n_work v_thrown v_textSize v_place v_stations v_readStations v_doings v_seen v_seed v_wide v_up v_low r_page r_trial r_sines r_at)) (gQI dC dI (va_A (wd_d50dca k n_t n_text n_readPage n_page n_trial n_book n_kept n_isKept n_seenStation n_seenOther n_seenWide n_seenWas n_sines n_at n_column n_gram n_right n_work v_thrown v_textSize v_place v_stations v_readStations v_doings v_seen v_seed v_wide v_up v_low r_page r_trial r_sines r_at) sz) o_r (wd_d50dca k n_t n_text n_readPage n_page n_trial n_book n_kept n_isKept n_seenStation n_seenOther n_seenWide n_seenWas n_sines n_at n_column n_gram n_right n_work o_v_thrown v_textSize v_place v_stations v_readStations v_doings v_seen v_seed v_wide v_up v_low r_page o_r_trial r_sines o_r_at)) 0 0 (va_A (wd_d50dca k n_t n_text n_readPage n_page n_trial n_book n_kept n_isKept n_seenStation n_seenOther n_seenWide n_seenWas n_sines n_at n_column n_gram n_right n_work v_thrown v_textSize v_place v_stations v_readStations v_doings v_seen v_seed v_wide v_up v_low r_page r_trial r_sines r_at) sz) := by
  refine g_entry (cc := cX6_judge) (maxL := 6) (ret := (some .int)) (lv := [(0, .ref n_t), (1, .int x1), (2, .long x2)]) (by decide +kernel) rfl (Nat.le_of_ble_eq_true rfl) rfl (fun p e s m below meth c ls hx hb hr hml hts hown hlk hnm hsz hG hA hP hD hS hl => ?_)
  exact k_X6_judge hx hb hml hts hown hG hA F n_t n_text n_readPage n_page n_trial n_book n_kept n_isKept n_seenStation n_seenOther n_seenWide n_seenWas n_sines n_at n_column n_gram n_right n_work v_thrown v_textSize v_place v_stations v_readStations v_doings v_seen v_seed v_wide v_up v_low r_page r_trial r_sines r_at x1 x2 o_r o_v_thrown o_r_trial o_r_at (fun pc H locs ls v q_v_thrown q_r_trial q_r_at hd ho hP hD hS => by cases ho; exact g_ireti hx hb hr hlk hP hD hS hd) s.heap [] ls hl hP hD hS hm
end
section
set_option maxHeartbeats 4000000 in
set_option maxRecDepth 100000 in
theorem k_X6_see {p : Program} {l : Launch} {e : Env} {s : State} {m : MethodId} {args : Array Value} {below : List Frame} {meth : Method} {c : Code} {A : Nat → Prop} {Q : State → Prop} {dC : Nat → ClassId} {dI : Nat → Nat → Nat} {k : Nat → ClassId} (hx : p.tables.exec = Jvm.exec) (hb : c.code = cX6_see) (hml : c.maxLocals = 5) (hts : ∀ w ∈ wsX6_see, w.before args s = true) (hown : s.vm.findClass RX6 = some m.cls) (hG : gK dC dI k A s) (hA : ∀ q : Nat, s.heap.size ≤ q → A q) (n_t n_text n_readPage n_page n_trial n_book n_kept n_isKept n_seenStation n_seenOther n_seenWide n_seenWas n_sines n_at n_column n_gram n_right n_work : Nat) (v_thrown : Int32) (v_textSize : Int32) (v_place : Int32) (v_stations : Int32) (v_readStations : Int32) (v_doings : Int32) (v_seen : Int32) (v_seed : Int64) (v_wide : Int32) (v_up : Int64) (v_low : Int64) (r_seenStation : Nat → Int32) (r_seenOther : Nat → Int32) (r_seenWide : Nat → Int32) (r_seenWas : Nat → Int32) (x1 : Int32) (x2 : Int32) (x3 : Int32) (x4 : Int32) (o_r : Int32) (o_v_thrown : (Int32)) (o_v_seen : (Int32)) (o_r_seenStation : (Nat → Int32)) (o_r_seenOther : (Nat → Int32)) (o_r_seenWide : (Nat → Int32)) (o_r_seenWas : (Nat → Int32)) (RET : ∀ (pc : Nat) (H : Heap) (locs : List Loc) (ls : Array Slot) (v : Int32) (q_v_thrown : Int32) (q_v_seen : Int32) (q_r_seenStation : Nat → Int32) (q_r_seenOther : Nat → Int32) (q_r_seenWide : Nat → Int32) (q_r_seenWas : Nat → Int32), decode cX6_see pc = .ok (.ireturn, 1) → some (v, q_v_thrown, q_v_seen, q_r_seenStation, q_r_seenOther, q_r_seenWide, q_r_seenWas) = some (o_r, o_v_thrown, o_v_seen, o_r_seenStation, o_r_seenOther, o_r_seenWide, o_r_seenWas) → va_P (dC, dI) vwCl (wd_7bc0ac k n_t n_text n_readPage n_page n_trial n_book n_kept n_isKept n_seenStation n_seenOther n_seenWide n_seenWas n_sines n_at n_column n_gram n_right n_work q_v_thrown v_textSize v_place v_stations v_readStations v_doings q_v_seen v_seed v_wide v_up v_low q_r_seenStation q_r_seenOther q_r_seenWide q_r_seenWas) H → va_D A (wd_7bc0ac k n_t n_text n_readPage n_page n_trial n_book n_kept n_isKept n_seenStation n_seenOther n_seenWide n_seenWas n_sines n_at n_column n_gram n_right n_work q_v_thrown v_textSize v_place v_stations v_readStations v_doings q_v_seen v_seed v_wide v_up v_low q_r_seenStation q_r_seenOther q_r_seenWide q_r_seenWas) → va_S A s.heap H locs → W p l e rm_X6_see s m args below meth c H locs 0 0 Q (F0 m pc ls [.int v])) (H : Heap) (locs : List Loc) (ls : Array Slot) (hl : lv_has ls 5 [(0, .ref n_t), (1, .int x1), (2, .int x2), (3, .int x3), (4, .int x4)]) (hP : va_P (dC, dI) vwCl (wd_7bc0ac k n_t n_text n_readPage n_page n_trial n_book n_kept n_isKept n_seenStation n_seenOther n_seenWide n_seenWas n_sines n_at n_column n_gram n_right n_work v_thrown v_textSize v_place v_stations v_readStations v_doings v_seen v_seed v_wide v_up v_low r_seenStation r_seenOther r_seenWide r_seenWas) H) (hD : va_D A (wd_7bc0ac k n_t n_text n_readPage n_page n_trial n_book n_kept n_isKept n_seenStation n_seenOther n_seenWide n_seenWas n_sines n_at n_column n_gram n_right n_work v_thrown v_textSize v_place v_stations v_readStations v_doings v_seen v_seed v_wide v_up v_low r_seenStation r_seenOther r_seenWide r_seenWas)) (hS : va_S A s.heap H locs) (hm : f_X6_see x1 x2 x3 x4 v_thrown v_stations v_seen r_seenStation r_seenOther r_seenWide r_seenWas = some (o_r, o_v_thrown, o_v_seen, o_r_seenStation, o_r_seenOther, o_r_seenWide, o_r_seenWas)) : W p l e rm_X6_see s m args below meth c H locs 0 0 Q (F0 m 0 ls []) := by
  have hinX6 : ∀ w ∈ u_ws RX6 TX6 28, w ∈ wsX6_see := by decide +kernel
  have k0 := hts (.fieldLink RX6 67 "CaveLegsModel" "thrown" "I") (by decide +kernel)
  have k1 := hts (.constantLong RX6 258 (10)) (by decide +kernel)
  have k2 := hts (.fieldLink RX6 260 "CaveLegsModel" "seen" "I") (by decide +kernel)
  have k3 := hts (.fieldLink RX6 36 "CaveLegsModel" "seenStation" "[I") (by decide +kernel)
  have k4 := hts (.fieldLink RX6 39 "CaveLegsModel" "seenOther" "[I") (by decide +kernel)
  have k5 := hts (.fieldLink RX6 42 "CaveLegsModel" "seenWide" "[I") (by decide +kernel)
  have k6 := hts (.fieldLink RX6 45 "CaveLegsModel" "seenWas" "[I") (by decide +kernel)
  unfold f_X6_see at hm
  refine lv_aload_n hx hb dX6_see_0 rfl (lv_at hl 0 rfl) ?_
  refine lv_iconst (v := (0 : Int32)) hx hb dX6_see_1 (by decide) ?_
  refine va_put (D := (dC, dI)) (ci := 6) (v := .int (0 : Int32)) (ty := .int) (C := RX6) (T := TX6) (N := 28) hx hb hts hinX6 tyX6 tyX6_ok nmX6 hown hG.1 hP hD hS 0 rfl rfl 0 (by decide) k0 (fun _ h9 => h9) rfl (by decide +kernel) rfl rfl (Nat.le_of_ble_eq_true rfl) dX6_see_2 (fun H locs hP hD hS => ?_)
  replace hP : va_P (dC, dI) vwCl (wd_7bc0ac k n_t n_text n_readPage n_page n_trial n_book n_kept n_isKept n_seenStation n_seenOther n_seenWide n_seenWas n_sines n_at n_column n_gram n_right n_work (0 : Int32) v_textSize v_place v_stations v_readStations v_doings v_seen v_seed v_wide v_up v_low r_seenStation r_seenOther r_seenWide r_seenWas) H := hP
  replace hD : va_D A (wd_7bc0ac k n_t n_text n_readPage n_page n_trial n_book n_kept n_isKept n_seenStation n_seenOther n_seenWide n_seenWas n_sines n_at n_column n_gram n_right n_work (0 : Int32) v_textSize v_place v_stations v_readStations v_doings v_seen v_seed v_wide v_up v_low r_seenStation r_seenOther r_seenWide r_seenWas) := hD
  refine lv_aload_n hx hb dX6_see_5 rfl (lv_at hl 0 rfl) ?_
  refine lv_iload_n hx hb dX6_see_6 rfl (lv_at hl 1 rfl) ?_
  obtain ⟨r1, e2, hm⟩ := bnd1_some hm
  refine g_calli (w2 := (wd_7bc0ac k n_t n_text n_readPage n_page n_trial n_book n_kept n_isKept n_seenStation n_seenOther n_seenWide n_seenWas n_sines n_at n_column n_gram n_right n_work (0 : Int32) v_textSize v_place v_stations v_readStations v_doings v_seen v_seed v_wide v_up v_low r_seenStation r_seenOther r_seenWide r_seenWas)) (va_runV (As := [.int x1]) (rest := []) ⟨hx, hb, hml, hown, hts⟩ (m_X6_noStation l dC dI k H.size n_t n_text n_readPage n_page n_trial n_book n_kept n_isKept n_seenStation n_seenOther n_seenWide n_seenWas n_sines n_at n_column n_gram n_right n_work (0 : Int32) v_textSize v_place v_stations v_readStations v_doings v_seen v_seed v_wide v_up v_low x1 e2) (cwV 1 hts gX6_see_X6_noStation rfl rfl rfl (by decide +kernel) ⟨Nat.le_of_ble_eq_true rfl, Nat.le_of_ble_eq_true rfl⟩) (g_preV hG hP hD hS hA [0] rfl (by decide) (ci := 6) (q0 := 0) rfl rfl) rfl rfl hl.1 rfl (lv_room (Nat.le_of_ble_eq_true rfl)) dX6_see_7 ⟨Nat.le_of_ble_eq_true rfl, Nat.le_of_ble_eq_true rfl⟩) hP hD hS hA [0] [1, 2, 3, 4] [4, 0, 1, 2, 3] rfl rfl (by decide) (by decide) rfl (by decide) (fun H locs hP hD hS => ?_)
  refine lv_if_ne (tgt := 21) hx hb dX6_see_10 (by decide) (fun c3 => ?_) (fun c3 => ?_)
  · replace hm := ifn c3 hm
    refine lv_iconst (v := (-1 : Int32)) hx hb dX6_see_21 (by decide) ?_
    exact RET _ _ _ _ _ _ _ _ _ _ _ dX6_see_22 hm hP hD hS
  · replace hm := ifp c3 hm
    refine lv_aload_n hx hb dX6_see_13 rfl (lv_at hl 0 rfl) ?_
    refine lv_iload_n hx hb dX6_see_14 rfl (lv_at hl 2 rfl) ?_
    obtain ⟨r4, e5, hm⟩ := bnd1_some hm
    refine g_calli (w2 := (wd_7bc0ac k n_t n_text n_readPage n_page n_trial n_book n_kept n_isKept n_seenStation n_seenOther n_seenWide n_seenWas n_sines n_at n_column n_gram n_right n_work (0 : Int32) v_textSize v_place v_stations v_readStations v_doings v_seen v_seed v_wide v_up v_low r_seenStation r_seenOther r_seenWide r_seenWas)) (va_runV (As := [.int x2]) (rest := []) ⟨hx, hb, hml, hown, hts⟩ (m_X6_noStation l dC dI k H.size n_t n_text n_readPage n_page n_trial n_book n_kept n_isKept n_seenStation n_seenOther n_seenWide n_seenWas n_sines n_at n_column n_gram n_right n_work (0 : Int32) v_textSize v_place v_stations v_readStations v_doings v_seen v_seed v_wide v_up v_low x2 e5) (cwV 1 hts gX6_see_X6_noStation rfl rfl rfl (by decide +kernel) ⟨Nat.le_of_ble_eq_true rfl, Nat.le_of_ble_eq_true rfl⟩) (g_preV hG hP hD hS hA [0] rfl (by decide) (ci := 6) (q0 := 0) rfl rfl) rfl rfl hl.1 rfl (lv_room (Nat.le_of_ble_eq_true rfl)) dX6_see_15 ⟨Nat.le_of_ble_eq_true rfl, Nat.le_of_ble_eq_true rfl⟩) hP hD hS hA [0] [1, 2, 3, 4] [4, 0, 1, 2, 3] rfl rfl (by decide) (by decide) rfl (by decide) (fun H locs hP hD hS => ?_)
    refine lv_if_eq (tgt := 23) hx hb dX6_see_18 (by decide) (fun c6 => ?_) (fun c6 => ?_)
    · replace hm := ifp c6 hm
      refine lv_iload_n hx hb dX6_see_23 rfl (lv_at hl 3 rfl) ?_
      refine g_i2l hx hb dX6_see_24 ?_
      refine lv_lconst (v := (0 : Int64)) hx hb dX6_see_25 (by decide) ?_
      refine lv_ldc2 (v := (10 : Int64)) hx hb hown k1 dX6_see_26 ?_
      obtain ⟨r7, e8, hm⟩ := bnd1_some hm
      refine g_calli (w2 := (wd_7bc0ac k n_t n_text n_readPage n_page n_trial n_book n_kept n_isKept n_seenStation n_seenOther n_seenWide n_seenWas n_sines n_at n_column n_gram n_right n_work (0 : Int32) v_textSize v_place v_stations v_readStations v_doings v_seen v_seed v_wide v_up v_low r_seenStation r_seenOther r_seenWide r_seenWas)) (va_runS (As := [.long (Int32.toInt64 x3), .long (0 : Int64), .long (10 : Int64)]) (rest := []) ⟨hx, hb, hml, hown, hts⟩ (m_X6_in l dC dI k H.size  (Int32.toInt64 x3) (0 : Int64) (10 : Int64) e8) (va_cwS 3 hts gX6_see_X6_in rfl rfl rfl (by decide +kernel) ⟨Nat.le_of_ble_eq_true rfl, Nat.le_of_ble_eq_true rfl⟩) (g_preS hG hP hD hS hA [] rfl (by decide)) rfl rfl hl.1 rfl (lv_room (Nat.le_of_ble_eq_true rfl)) dX6_see_29 ⟨Nat.le_of_ble_eq_true rfl, Nat.le_of_ble_eq_true rfl⟩) hP hD hS hA [] [0, 1, 2, 3, 4] [0, 1, 2, 3, 4] rfl rfl (by decide) (by decide) rfl (by decide) (fun H locs hP hD hS => ?_)
      refine lv_if_eq (tgt := 46) hx hb dX6_see_32 (by decide) (fun c9 => ?_) (fun c9 => ?_)
      · replace hm := ifp c9 hm
        refine lv_bipush (v := (-2 : Int32)) hx hb dX6_see_46 (by decide) ?_
        exact RET _ _ _ _ _ _ _ _ _ _ _ dX6_see_48 hm hP hD hS
      · replace hm := ifn c9 hm
        refine lv_iload hx hb dX6_see_35 (lv_at hl 4 rfl) ?_
        refine g_i2l hx hb dX6_see_37 ?_
        refine lv_lconst (v := (0 : Int64)) hx hb dX6_see_38 (by decide) ?_
        refine lv_lconst (v := (1 : Int64)) hx hb dX6_see_39 (by decide) ?_
        obtain ⟨r10, e11, hm⟩ := bnd1_some hm
        refine g_calli (w2 := (wd_7bc0ac k n_t n_text n_readPage n_page n_trial n_book n_kept n_isKept n_seenStation n_seenOther n_seenWide n_seenWas n_sines n_at n_column n_gram n_right n_work (0 : Int32) v_textSize v_place v_stations v_readStations v_doings v_seen v_seed v_wide v_up v_low r_seenStation r_seenOther r_seenWide r_seenWas)) (va_runS (As := [.long (Int32.toInt64 x4), .long (0 : Int64), .long (1 : Int64)]) (rest := []) ⟨hx, hb, hml, hown, hts⟩ (m_X6_in l dC dI k H.size  (Int32.toInt64 x4) (0 : Int64) (1 : Int64) e11) (va_cwS 3 hts gX6_see_X6_in rfl rfl rfl (by decide +kernel) ⟨Nat.le_of_ble_eq_true rfl, Nat.le_of_ble_eq_true rfl⟩) (g_preS hG hP hD hS hA [] rfl (by decide)) rfl rfl hl.1 rfl (lv_room (Nat.le_of_ble_eq_true rfl)) dX6_see_40 ⟨Nat.le_of_ble_eq_true rfl, Nat.le_of_ble_eq_true rfl⟩) hP hD hS hA [] [0, 1, 2, 3, 4] [0, 1, 2, 3, 4] rfl rfl (by decide) (by decide) rfl (by decide) (fun H locs hP hD hS => ?_)
        refine lv_if_ne (tgt := 49) hx hb dX6_see_43 (by decide) (fun c12 => ?_) (fun c12 => ?_)
        · replace hm := ifn c12 hm
          refine lv_aload_n hx hb dX6_see_49 rfl (lv_at hl 0 rfl) ?_
          refine va_get (D := (dC, dI)) (ci := 6) (v := .int v_seen) (C := RX6) (T := TX6) (N := 28) hx hb hts hinX6 hown hG.1 hP 0 rfl rfl 13 (by decide) k2 (fun _ h9 => h9) rfl dX6_see_50 ?_
          refine lv_bipush (v := (6 : Int32)) hx hb dX6_see_53 (by decide) ?_
          refine lv_icmp_ne (tgt := 61) hx hb dX6_see_55 (by decide) (fun c13 => ?_) (fun c13 => ?_)
          · replace hm := ifn c13 hm
            refine lv_aload_n hx hb dX6_see_61 rfl (lv_at hl 0 rfl) ?_
            refine va_get (D := (dC, dI)) (ci := 6) (v := .ref n_seenStation) (C := RX6) (T := TX6) (N := 28) hx hb hts hinX6 hown hG.1 hP 0 rfl rfl 14 (by decide) k3 (fun _ h9 => h9) rfl dX6_see_62 ?_
            refine lv_aload_n hx hb dX6_see_65 rfl (lv_at hl 0 rfl) ?_
            refine va_get (D := (dC, dI)) (ci := 6) (v := .int v_seen) (C := RX6) (T := TX6) (N := 28) hx hb hts hinX6 hown hG.1 hP 0 rfl rfl 13 (by decide) k2 (fun _ h9 => h9) rfl dX6_see_66 ?_
            refine lv_iload_n hx hb dX6_see_69 rfl (lv_at hl 1 rfl) ?_
            obtain ⟨hi14, hm⟩ := chk_some hm
            refine va_iast hx hb hG.1 hP hD hS 1 0 rfl rfl hi14 dX6_see_70 (fun H locs hP hD hS => ?_)
            replace hP : va_P (dC, dI) vwCl (wd_7bc0ac k n_t n_text n_readPage n_page n_trial n_book n_kept n_isKept n_seenStation n_seenOther n_seenWide n_seenWas n_sines n_at n_column n_gram n_right n_work (0 : Int32) v_textSize v_place v_stations v_readStations v_doings v_seen v_seed v_wide v_up v_low (upd r_seenStation (Int32.toNatClampNeg v_seen) x1) r_seenOther r_seenWide r_seenWas) H := hP
            replace hD : va_D A (wd_7bc0ac k n_t n_text n_readPage n_page n_trial n_book n_kept n_isKept n_seenStation n_seenOther n_seenWide n_seenWas n_sines n_at n_column n_gram n_right n_work (0 : Int32) v_textSize v_place v_stations v_readStations v_doings v_seen v_seed v_wide v_up v_low (upd r_seenStation (Int32.toNatClampNeg v_seen) x1) r_seenOther r_seenWide r_seenWas) := hD
            refine lv_aload_n hx hb dX6_see_71 rfl (lv_at hl 0 rfl) ?_
            refine va_get (D := (dC, dI)) (ci := 6) (v := .ref n_seenOther) (C := RX6) (T := TX6) (N := 28) hx hb hts hinX6 hown hG.1 hP 0 rfl rfl 15 (by decide) k4 (fun _ h9 => h9) rfl dX6_see_72 ?_
            refine lv_aload_n hx hb dX6_see_75 rfl (lv_at hl 0 rfl) ?_
            refine va_get (D := (dC, dI)) (ci := 6) (v := .int v_seen) (C := RX6) (T := TX6) (N := 28) hx hb hts hinX6 hown hG.1 hP 0 rfl rfl 13 (by decide) k2 (fun _ h9 => h9) rfl dX6_see_76 ?_
            refine lv_iload_n hx hb dX6_see_79 rfl (lv_at hl 2 rfl) ?_
            obtain ⟨hi15, hm⟩ := chk_some hm
            refine va_iast hx hb hG.1 hP hD hS 2 0 rfl rfl hi15 dX6_see_80 (fun H locs hP hD hS => ?_)
            replace hP : va_P (dC, dI) vwCl (wd_7bc0ac k n_t n_text n_readPage n_page n_trial n_book n_kept n_isKept n_seenStation n_seenOther n_seenWide n_seenWas n_sines n_at n_column n_gram n_right n_work (0 : Int32) v_textSize v_place v_stations v_readStations v_doings v_seen v_seed v_wide v_up v_low (upd r_seenStation (Int32.toNatClampNeg v_seen) x1) (upd r_seenOther (Int32.toNatClampNeg v_seen) x2) r_seenWide r_seenWas) H := hP
            replace hD : va_D A (wd_7bc0ac k n_t n_text n_readPage n_page n_trial n_book n_kept n_isKept n_seenStation n_seenOther n_seenWide n_seenWas n_sines n_at n_column n_gram n_right n_work (0 : Int32) v_textSize v_place v_stations v_readStations v_doings v_seen v_seed v_wide v_up v_low (upd r_seenStation (Int32.toNatClampNeg v_seen) x1) (upd r_seenOther (Int32.toNatClampNeg v_seen) x2) r_seenWide r_seenWas) := hD
            refine lv_aload_n hx hb dX6_see_81 rfl (lv_at hl 0 rfl) ?_
            refine va_get (D := (dC, dI)) (ci := 6) (v := .ref n_seenWide) (C := RX6) (T := TX6) (N := 28) hx hb hts hinX6 hown hG.1 hP 0 rfl rfl 16 (by decide) k5 (fun _ h9 => h9) rfl dX6_see_82 ?_
            refine lv_aload_n hx hb dX6_see_85 rfl (lv_at hl 0 rfl) ?_
            refine va_get (D := (dC, dI)) (ci := 6) (v := .int v_seen) (C := RX6) (T := TX6) (N := 28) hx hb hts hinX6 hown hG.1 hP 0 rfl rfl 13 (by decide) k2 (fun _ h9 => h9) rfl dX6_see_86 ?_
            refine lv_iload_n hx hb dX6_see_89 rfl (lv_at hl 3 rfl) ?_
            obtain ⟨hi16, hm⟩ := chk_some hm
            refine va_iast hx hb hG.1 hP hD hS 3 0 rfl rfl hi16 dX6_see_90 (fun H locs hP hD hS => ?_)
            replace hP : va_P (dC, dI) vwCl (wd_7bc0ac k n_t n_text n_readPage n_page n_trial n_book n_kept n_isKept n_seenStation n_seenOther n_seenWide n_seenWas n_sines n_at n_column n_gram n_right n_work (0 : Int32) v_textSize v_place v_stations v_readStations v_doings v_seen v_seed v_wide v_up v_low (upd r_seenStation (Int32.toNatClampNeg v_seen) x1) (upd r_seenOther (Int32.toNatClampNeg v_seen) x2) (upd r_seenWide (Int32.toNatClampNeg v_seen) x3) r_seenWas) H := hP
            replace hD : va_D A (wd_7bc0ac k n_t n_text n_readPage n_page n_trial n_book n_kept n_isKept n_seenStation n_seenOther n_seenWide n_seenWas n_sines n_at n_column n_gram n_right n_work (0 : Int32) v_textSize v_place v_stations v_readStations v_doings v_seen v_seed v_wide v_up v_low (upd r_seenStation (Int32.toNatClampNeg v_seen) x1) (upd r_seenOther (Int32.toNatClampNeg v_seen) x2) (upd r_seenWide (Int32.toNatClampNeg v_seen) x3) r_seenWas) := hD
            refine lv_aload_n hx hb dX6_see_91 rfl (lv_at hl 0 rfl) ?_
            refine va_get (D := (dC, dI)) (ci := 6) (v := .ref n_seenWas) (C := RX6) (T := TX6) (N := 28) hx hb hts hinX6 hown hG.1 hP 0 rfl rfl 17 (by decide) k6 (fun _ h9 => h9) rfl dX6_see_92 ?_
            refine lv_aload_n hx hb dX6_see_95 rfl (lv_at hl 0 rfl) ?_
            refine va_get (D := (dC, dI)) (ci := 6) (v := .int v_seen) (C := RX6) (T := TX6) (N := 28) hx hb hts hinX6 hown hG.1 hP 0 rfl rfl 13 (by decide) k2 (fun _ h9 => h9) rfl dX6_see_96 ?_
            refine lv_iload hx hb dX6_see_99 (lv_at hl 4 rfl) ?_
            obtain ⟨hi17, hm⟩ := chk_some hm
            refine va_iast hx hb hG.1 hP hD hS 4 0 rfl rfl hi17 dX6_see_101 (fun H locs hP hD hS => ?_)
            replace hP : va_P (dC, dI) vwCl (wd_7bc0ac k n_t n_text n_readPage n_page n_trial n_book n_kept n_isKept n_seenStation n_seenOther n_seenWide n_seenWas n_sines n_at n_column n_gram n_right n_work (0 : Int32) v_textSize v_place v_stations v_readStations v_doings v_seen v_seed v_wide v_up v_low (upd r_seenStation (Int32.toNatClampNeg v_seen) x1) (upd r_seenOther (Int32.toNatClampNeg v_seen) x2) (upd r_seenWide (Int32.toNatClampNeg v_seen) x3) (upd r_seenWas (Int32.toNatClampNeg v_seen) x4)) H := hP
            replace hD : va_D A (wd_7bc0ac k n_t n_text n_readPage n_page n_trial n_book n_kept n_isKept n_seenStation n_seenOther n_seenWide n_seenWas n_sines n_at n_column n_gram n_right n_work (0 : Int32) v_textSize v_place v_stations v_readStations v_doings v_seen v_seed v_wide v_up v_low (upd r_seenStation (Int32.toNatClampNeg v_seen) x1) (upd r_seenOther (Int32.toNatClampNeg v_seen) x2) (upd r_seenWide (Int32.toNatClampNeg v_seen) x3) (upd r_seenWas (Int32.toNatClampNeg v_seen) x4)) := hD
            refine lv_aload_n hx hb dX6_see_102 rfl (lv_at hl 0 rfl) ?_
            refine lv_dup hx hb dX6_see_103 rfl ?_
            refine va_get (D := (dC, dI)) (ci := 6) (v := .int v_seen) (C := RX6) (T := TX6) (N := 28) hx hb hts hinX6 hown hG.1 hP 0 rfl rfl 13 (by decide) k2 (fun _ h9 => h9) rfl dX6_see_104 ?_
            refine lv_iconst (v := (1 : Int32)) hx hb dX6_see_107 (by decide) ?_
            refine lv_iadd hx hb dX6_see_108 ?_
            refine lv_topi (fun t18 et18 => ?_)
            replace hm := (nmd_eq et18).trans hm
            refine va_put (D := (dC, dI)) (ci := 6) (v := .int t18) (ty := .int) (C := RX6) (T := TX6) (N := 28) hx hb hts hinX6 tyX6 tyX6_ok nmX6 hown hG.1 hP hD hS 0 rfl rfl 13 (by decide) k2 (fun _ h9 => h9) rfl (by decide +kernel) rfl rfl (Nat.le_of_ble_eq_true rfl) dX6_see_109 (fun H locs hP hD hS => ?_)
            replace hP : va_P (dC, dI) vwCl (wd_7bc0ac k n_t n_text n_readPage n_page n_trial n_book n_kept n_isKept n_seenStation n_seenOther n_seenWide n_seenWas n_sines n_at n_column n_gram n_right n_work (0 : Int32) v_textSize v_place v_stations v_readStations v_doings t18 v_seed v_wide v_up v_low (upd r_seenStation (Int32.toNatClampNeg v_seen) x1) (upd r_seenOther (Int32.toNatClampNeg v_seen) x2) (upd r_seenWide (Int32.toNatClampNeg v_seen) x3) (upd r_seenWas (Int32.toNatClampNeg v_seen) x4)) H := hP
            replace hD : va_D A (wd_7bc0ac k n_t n_text n_readPage n_page n_trial n_book n_kept n_isKept n_seenStation n_seenOther n_seenWide n_seenWas n_sines n_at n_column n_gram n_right n_work (0 : Int32) v_textSize v_place v_stations v_readStations v_doings t18 v_seed v_wide v_up v_low (upd r_seenStation (Int32.toNatClampNeg v_seen) x1) (upd r_seenOther (Int32.toNatClampNeg v_seen) x2) (upd r_seenWide (Int32.toNatClampNeg v_seen) x3) (upd r_seenWas (Int32.toNatClampNeg v_seen) x4)) := hD
            refine lv_aload_n hx hb dX6_see_112 rfl (lv_at hl 0 rfl) ?_
            refine va_get (D := (dC, dI)) (ci := 6) (v := .int t18) (C := RX6) (T := TX6) (N := 28) hx hb hts hinX6 hown hG.1 hP 0 rfl rfl 13 (by decide) k2 (fun _ h9 => h9) rfl dX6_see_113 ?_
            exact RET _ _ _ _ _ _ _ _ _ _ _ dX6_see_116 hm hP hD hS
          · replace hm := ifp c13 hm
            refine lv_bipush (v := (-4 : Int32)) hx hb dX6_see_58 (by decide) ?_
            exact RET _ _ _ _ _ _ _ _ _ _ _ dX6_see_60 hm hP hD hS
        · replace hm := ifp c12 hm
          refine lv_bipush (v := (-2 : Int32)) hx hb dX6_see_46 (by decide) ?_
          exact RET _ _ _ _ _ _ _ _ _ _ _ dX6_see_48 hm hP hD hS
    · replace hm := ifn c6 hm
      refine lv_iconst (v := (-1 : Int32)) hx hb dX6_see_21 (by decide) ?_
      exact RET _ _ _ _ _ _ _ _ _ _ _ dX6_see_22 hm hP hD hS
set_option maxRecDepth 100000 in
theorem m_X6_see (l : Launch) (dC : Nat → ClassId) (dI : Nat → Nat → Nat) (k : Nat → ClassId) (sz : Nat) (n_t n_text n_readPage n_page n_trial n_book n_kept n_isKept n_seenStation n_seenOther n_seenWide n_seenWas n_sines n_at n_column n_gram n_right n_work : Nat) (v_thrown : Int32) (v_textSize : Int32) (v_place : Int32) (v_stations : Int32) (v_readStations : Int32) (v_doings : Int32) (v_seen : Int32) (v_seed : Int64) (v_wide : Int32) (v_up : Int64) (v_low : Int64) (r_seenStation : Nat → Int32) (r_seenOther : Nat → Int32) (r_seenWide : Nat → Int32) (r_seenWas : Nat → Int32) (x1 : Int32) (x2 : Int32) (x3 : Int32) (x4 : Int32) {o_r : Int32} {o_v_thrown : (Int32)} {o_v_seen : (Int32)} {o_r_seenStation : (Nat → Int32)} {o_r_seenOther : (Nat → Int32)} {o_r_seenWide : (Nat → Int32)} {o_r_seenWas : (Nat → Int32)} (hm : f_X6_see x1 x2 x3 x4 v_thrown v_stations v_seen r_seenStation r_seenOther r_seenWide r_seenWas = some (o_r, o_v_thrown, o_v_seen, o_r_seenStation, o_r_seenOther, o_r_seenWide, o_r_seenWas)) : Met l yX6_see wsX6_see rm_X6_see (gPre dC dI k [.ref n_t, .int x1, .int x2, .int x3, .int x4] sz (wd_7bc0ac k n_t n_text n_readPage n_page n_trial n_book n_kept n_isKept n_seenStation n_seenOther n_seenWide n_seenWas n_sines n_at n_column n_gram n_right n_work v_thrown v_textSize v_place v_stations v_readStations v_doings v_seen v_seed v_wide v_up v_low r_seenStation r_seenOther r_seenWide r_seenWas)) (gQI dC dI (va_A (wd_7bc0ac k n_t n_text n_readPage n_page n_trial n_book n_kept n_isKept n_seenStation n_seenOther n_seenWide n_seenWas n_sines n_at n_column n_gram n_right n_work v_thrown v_textSize v_place v_stations v_readStations v_doings v_seen v_seed v_wide v_up v_low r_seenStation r_seenOther r_seenWide r_seenWas) sz) o_r (wd_7bc0ac k n_t n_text n_readPage n_page n_trial n_book n_kept n_isKept n_seenStation n_seenOther n_seenWide n_seenWas n_sines n_at n_column n_gram n_right n_work o_v_thrown v_textSize v_place v_stations v_readStations v_doings o_v_seen v_seed v_wide v_up v_low o_r_seenStation o_r_seenOther o_r_seenWide o_r_seenWas)) 0 0 (va_A (wd_7bc0ac k n_t n_text n_readPage n_page n_trial n_book n_kept n_isKept n_seenStation n_seenOther n_seenWide n_seenWas n_sines n_at n_column n_gram n_right n_work v_thrown v_textSize v_place v_stations v_readStations v_doings v_seen v_seed v_wide v_up v_low r_seenStation r_seenOther r_seenWide r_seenWas) sz) := by
  refine g_entry (cc := cX6_see) (maxL := 5) (ret := (some .int)) (lv := [(0, .ref n_t), (1, .int x1), (2, .int x2), (3, .int x3), (4, .int x4)]) (by decide +kernel) rfl (Nat.le_of_ble_eq_true rfl) rfl (fun p e s m below meth c ls hx hb hr hml hts hown hlk hnm hsz hG hA hP hD hS hl => ?_)
  exact k_X6_see hx hb hml hts hown hG hA n_t n_text n_readPage n_page n_trial n_book n_kept n_isKept n_seenStation n_seenOther n_seenWide n_seenWas n_sines n_at n_column n_gram n_right n_work v_thrown v_textSize v_place v_stations v_readStations v_doings v_seen v_seed v_wide v_up v_low r_seenStation r_seenOther r_seenWide r_seenWas x1 x2 x3 x4 o_r o_v_thrown o_v_seen o_r_seenStation o_r_seenOther o_r_seenWide o_r_seenWas (fun pc H locs ls v q_v_thrown q_v_seen q_r_seenStation q_r_seenOther q_r_seenWide q_r_seenWas hd ho hP hD hS => by cases ho; exact g_ireti hx hb hr hlk hP hD hS hd) s.heap [] ls hl hP hD hS hm
end
section
set_option maxHeartbeats 4000000 in
set_option maxRecDepth 100000 in
theorem k_X6_unsee {p : Program} {l : Launch} {e : Env} {s : State} {m : MethodId} {args : Array Value} {below : List Frame} {meth : Method} {c : Code} {A : Nat → Prop} {Q : State → Prop} {dC : Nat → ClassId} {dI : Nat → Nat → Nat} {k : Nat → ClassId} (hx : p.tables.exec = Jvm.exec) (hb : c.code = cX6_unsee) (hml : c.maxLocals = 2) (hts : ∀ w ∈ wsX6_unsee, w.before args s = true) (hown : s.vm.findClass RX6 = some m.cls) (hG : gK dC dI k A s) (hA : ∀ q : Nat, s.heap.size ≤ q → A q) (n_t n_text n_readPage n_page n_trial n_book n_kept n_isKept n_seenStation n_seenOther n_seenWide n_seenWas n_sines n_at n_column n_gram n_right n_work : Nat) (v_thrown : Int32) (v_textSize : Int32) (v_place : Int32) (v_stations : Int32) (v_readStations : Int32) (v_doings : Int32) (v_seen : Int32) (v_seed : Int64) (v_wide : Int32) (v_up : Int64) (v_low : Int64) (o_r : Int32) (o_v_thrown : (Int32)) (o_v_seen : (Int32)) (RET : ∀ (pc : Nat) (H : Heap) (locs : List Loc) (ls : Array Slot) (v : Int32) (q_v_thrown : Int32) (q_v_seen : Int32), decode cX6_unsee pc = .ok (.ireturn, 1) → some (v, q_v_thrown, q_v_seen) = some (o_r, o_v_thrown, o_v_seen) → va_P (dC, dI) vwCl (wd_471624 k n_t n_text n_readPage n_page n_trial n_book n_kept n_isKept n_seenStation n_seenOther n_seenWide n_seenWas n_sines n_at n_column n_gram n_right n_work q_v_thrown v_textSize v_place v_stations v_readStations v_doings q_v_seen v_seed v_wide v_up v_low) H → va_D A (wd_471624 k n_t n_text n_readPage n_page n_trial n_book n_kept n_isKept n_seenStation n_seenOther n_seenWide n_seenWas n_sines n_at n_column n_gram n_right n_work q_v_thrown v_textSize v_place v_stations v_readStations v_doings q_v_seen v_seed v_wide v_up v_low) → va_S A s.heap H locs → W p l e rm_X6_unsee s m args below meth c H locs 0 0 Q (F0 m pc ls [.int v])) (H : Heap) (locs : List Loc) (ls : Array Slot) (hl : lv_has ls 2 [(0, .ref n_t)]) (hP : va_P (dC, dI) vwCl (wd_471624 k n_t n_text n_readPage n_page n_trial n_book n_kept n_isKept n_seenStation n_seenOther n_seenWide n_seenWas n_sines n_at n_column n_gram n_right n_work v_thrown v_textSize v_place v_stations v_readStations v_doings v_seen v_seed v_wide v_up v_low) H) (hD : va_D A (wd_471624 k n_t n_text n_readPage n_page n_trial n_book n_kept n_isKept n_seenStation n_seenOther n_seenWide n_seenWas n_sines n_at n_column n_gram n_right n_work v_thrown v_textSize v_place v_stations v_readStations v_doings v_seen v_seed v_wide v_up v_low)) (hS : va_S A s.heap H locs) (hm : f_X6_unsee v_thrown v_seen = some (o_r, o_v_thrown, o_v_seen)) : W p l e rm_X6_unsee s m args below meth c H locs 0 0 Q (F0 m 0 ls []) := by
  have hinX6 : ∀ w ∈ u_ws RX6 TX6 28, w ∈ wsX6_unsee := by decide +kernel
  have k0 := hts (.fieldLink RX6 67 "CaveLegsModel" "thrown" "I") (by decide +kernel)
  have k1 := hts (.fieldLink RX6 260 "CaveLegsModel" "seen" "I") (by decide +kernel)
  unfold f_X6_unsee at hm
  refine lv_aload_n hx hb dX6_unsee_0 rfl (lv_at hl 0 rfl) ?_
  refine lv_iconst (v := (0 : Int32)) hx hb dX6_unsee_1 (by decide) ?_
  refine va_put (D := (dC, dI)) (ci := 6) (v := .int (0 : Int32)) (ty := .int) (C := RX6) (T := TX6) (N := 28) hx hb hts hinX6 tyX6 tyX6_ok nmX6 hown hG.1 hP hD hS 0 rfl rfl 0 (by decide) k0 (fun _ h9 => h9) rfl (by decide +kernel) rfl rfl (Nat.le_of_ble_eq_true rfl) dX6_unsee_2 (fun H locs hP hD hS => ?_)
  replace hP : va_P (dC, dI) vwCl (wd_471624 k n_t n_text n_readPage n_page n_trial n_book n_kept n_isKept n_seenStation n_seenOther n_seenWide n_seenWas n_sines n_at n_column n_gram n_right n_work (0 : Int32) v_textSize v_place v_stations v_readStations v_doings v_seen v_seed v_wide v_up v_low) H := hP
  replace hD : va_D A (wd_471624 k n_t n_text n_readPage n_page n_trial n_book n_kept n_isKept n_seenStation n_seenOther n_seenWide n_seenWas n_sines n_at n_column n_gram n_right n_work (0 : Int32) v_textSize v_place v_stations v_readStations v_doings v_seen v_seed v_wide v_up v_low) := hD
  refine lv_aload_n hx hb dX6_unsee_5 rfl (lv_at hl 0 rfl) ?_
  refine va_get (D := (dC, dI)) (ci := 6) (v := .int v_seen) (C := RX6) (T := TX6) (N := 28) hx hb hts hinX6 hown hG.1 hP 0 rfl rfl 13 (by decide) k1 (fun _ h9 => h9) rfl dX6_unsee_6 ?_
  refine lv_istore_n (lv' := [(1, .int v_seen), (0, .ref n_t)]) hx hb dX6_unsee_9 rfl hl (by decide) rfl (fun ls hl => ?_)
  refine lv_aload_n hx hb dX6_unsee_10 rfl (lv_at hl 1 rfl) ?_
  refine lv_iconst (v := (0 : Int32)) hx hb dX6_unsee_11 (by decide) ?_
  refine va_put (D := (dC, dI)) (ci := 6) (v := .int (0 : Int32)) (ty := .int) (C := RX6) (T := TX6) (N := 28) hx hb hts hinX6 tyX6 tyX6_ok nmX6 hown hG.1 hP hD hS 0 rfl rfl 13 (by decide) k1 (fun _ h9 => h9) rfl (by decide +kernel) rfl rfl (Nat.le_of_ble_eq_true rfl) dX6_unsee_12 (fun H locs hP hD hS => ?_)
  replace hP : va_P (dC, dI) vwCl (wd_471624 k n_t n_text n_readPage n_page n_trial n_book n_kept n_isKept n_seenStation n_seenOther n_seenWide n_seenWas n_sines n_at n_column n_gram n_right n_work (0 : Int32) v_textSize v_place v_stations v_readStations v_doings (0 : Int32) v_seed v_wide v_up v_low) H := hP
  replace hD : va_D A (wd_471624 k n_t n_text n_readPage n_page n_trial n_book n_kept n_isKept n_seenStation n_seenOther n_seenWide n_seenWas n_sines n_at n_column n_gram n_right n_work (0 : Int32) v_textSize v_place v_stations v_readStations v_doings (0 : Int32) v_seed v_wide v_up v_low) := hD
  refine lv_iload_n hx hb dX6_unsee_15 rfl (lv_at hl 0 rfl) ?_
  exact RET _ _ _ _ _ _ _ dX6_unsee_16 hm hP hD hS
set_option maxRecDepth 100000 in
theorem m_X6_unsee (l : Launch) (dC : Nat → ClassId) (dI : Nat → Nat → Nat) (k : Nat → ClassId) (sz : Nat) (n_t n_text n_readPage n_page n_trial n_book n_kept n_isKept n_seenStation n_seenOther n_seenWide n_seenWas n_sines n_at n_column n_gram n_right n_work : Nat) (v_thrown : Int32) (v_textSize : Int32) (v_place : Int32) (v_stations : Int32) (v_readStations : Int32) (v_doings : Int32) (v_seen : Int32) (v_seed : Int64) (v_wide : Int32) (v_up : Int64) (v_low : Int64) {o_r : Int32} {o_v_thrown : (Int32)} {o_v_seen : (Int32)} (hm : f_X6_unsee v_thrown v_seen = some (o_r, o_v_thrown, o_v_seen)) : Met l yX6_unsee wsX6_unsee rm_X6_unsee (gPre dC dI k [.ref n_t] sz (wd_471624 k n_t n_text n_readPage n_page n_trial n_book n_kept n_isKept n_seenStation n_seenOther n_seenWide n_seenWas n_sines n_at n_column n_gram n_right n_work v_thrown v_textSize v_place v_stations v_readStations v_doings v_seen v_seed v_wide v_up v_low)) (gQI dC dI (va_A (wd_471624 k n_t n_text n_readPage n_page n_trial n_book n_kept n_isKept n_seenStation n_seenOther n_seenWide n_seenWas n_sines n_at n_column n_gram n_right n_work v_thrown v_textSize v_place v_stations v_readStations v_doings v_seen v_seed v_wide v_up v_low) sz) o_r (wd_471624 k n_t n_text n_readPage n_page n_trial n_book n_kept n_isKept n_seenStation n_seenOther n_seenWide n_seenWas n_sines n_at n_column n_gram n_right n_work o_v_thrown v_textSize v_place v_stations v_readStations v_doings o_v_seen v_seed v_wide v_up v_low)) 0 0 (va_A (wd_471624 k n_t n_text n_readPage n_page n_trial n_book n_kept n_isKept n_seenStation n_seenOther n_seenWide n_seenWas n_sines n_at n_column n_gram n_right n_work v_thrown v_textSize v_place v_stations v_readStations v_doings v_seen v_seed v_wide v_up v_low) sz) := by
  refine g_entry (cc := cX6_unsee) (maxL := 2) (ret := (some .int)) (lv := [(0, .ref n_t)]) (by decide +kernel) rfl (Nat.le_of_ble_eq_true rfl) rfl (fun p e s m below meth c ls hx hb hr hml hts hown hlk hnm hsz hG hA hP hD hS hl => ?_)
  exact k_X6_unsee hx hb hml hts hown hG hA n_t n_text n_readPage n_page n_trial n_book n_kept n_isKept n_seenStation n_seenOther n_seenWide n_seenWas n_sines n_at n_column n_gram n_right n_work v_thrown v_textSize v_place v_stations v_readStations v_doings v_seen v_seed v_wide v_up v_low o_r o_v_thrown o_v_seen (fun pc H locs ls v q_v_thrown q_v_seen hd ho hP hD hS => by cases ho; exact g_ireti hx hb hr hlk hP hD hS hd) s.heap [] ls hl hP hD hS hm
end
section
set_option maxHeartbeats 4000000 in
set_option maxRecDepth 100000 in
theorem k_X6_isSo {p : Program} {l : Launch} {e : Env} {s : State} {m : MethodId} {args : Array Value} {below : List Frame} {meth : Method} {c : Code} {A : Nat → Prop} {Q : State → Prop} {dC : Nat → ClassId} {dI : Nat → Nat → Nat} {k : Nat → ClassId} (hx : p.tables.exec = Jvm.exec) (hb : c.code = cX6_isSo) (hml : c.maxLocals = 4) (hts : ∀ w ∈ wsX6_isSo, w.before args s = true) (hown : s.vm.findClass RX6 = some m.cls) (hG : gK dC dI k A s) (hA : ∀ q : Nat, s.heap.size ≤ q → A q) (F : Nat) (n_t n_text n_readPage n_page n_trial n_book n_kept n_isKept n_seenStation n_seenOther n_seenWide n_seenWas n_sines n_at n_column n_gram n_right n_work : Nat) (v_thrown : Int32) (v_textSize : Int32) (v_place : Int32) (v_stations : Int32) (v_readStations : Int32) (v_doings : Int32) (v_seen : Int32) (v_seed : Int64) (v_wide : Int32) (v_up : Int64) (v_low : Int64) (r_page : Nat → Int32) (r_seenStation : Nat → Int32) (r_seenOther : Nat → Int32) (r_seenWide : Nat → Int32) (r_seenWas : Nat → Int32) (x1 : Int32) (x2 : Int32) (o_r : Int32) (RET : ∀ (pc : Nat) (H : Heap) (locs : List Loc) (ls : Array Slot) (v : Int32), decode cX6_isSo pc = .ok (.ireturn, 1) → some v = some o_r → narrow .boolean (.int v) = .int v → va_P (dC, dI) vwCl (wd_17ad18 k n_t n_text n_readPage n_page n_trial n_book n_kept n_isKept n_seenStation n_seenOther n_seenWide n_seenWas n_sines n_at n_column n_gram n_right n_work v_thrown v_textSize v_place v_stations v_readStations v_doings v_seen v_seed v_wide v_up v_low r_page r_seenStation r_seenOther r_seenWide r_seenWas) H → va_D A (wd_17ad18 k n_t n_text n_readPage n_page n_trial n_book n_kept n_isKept n_seenStation n_seenOther n_seenWide n_seenWas n_sines n_at n_column n_gram n_right n_work v_thrown v_textSize v_place v_stations v_readStations v_doings v_seen v_seed v_wide v_up v_low r_page r_seenStation r_seenOther r_seenWide r_seenWas) → va_S A s.heap H locs → W p l e rm_X6_isSo s m args below meth c H locs 0 0 Q (F0 m pc ls [.int v])) (H : Heap) (locs : List Loc) (ls : Array Slot) (hl : lv_has ls 4 [(0, .ref n_t), (1, .int x1), (2, .int x2)]) (hP : va_P (dC, dI) vwCl (wd_17ad18 k n_t n_text n_readPage n_page n_trial n_book n_kept n_isKept n_seenStation n_seenOther n_seenWide n_seenWas n_sines n_at n_column n_gram n_right n_work v_thrown v_textSize v_place v_stations v_readStations v_doings v_seen v_seed v_wide v_up v_low r_page r_seenStation r_seenOther r_seenWide r_seenWas) H) (hD : va_D A (wd_17ad18 k n_t n_text n_readPage n_page n_trial n_book n_kept n_isKept n_seenStation n_seenOther n_seenWide n_seenWas n_sines n_at n_column n_gram n_right n_work v_thrown v_textSize v_place v_stations v_readStations v_doings v_seen v_seed v_wide v_up v_low r_page r_seenStation r_seenOther r_seenWide r_seenWas)) (hS : va_S A s.heap H locs) (hm : f_X6_isSo F x1 x2 v_stations r_page r_seenStation r_seenOther r_seenWide r_seenWas = some o_r) : W p l e rm_X6_isSo s m args below meth c H locs 0 0 Q (F0 m 0 ls []) := by
  have hinX6 : ∀ w ∈ u_ws RX6 TX6 28, w ∈ wsX6_isSo := by decide +kernel
  have k0 := hts (.fieldLink RX6 45 "CaveLegsModel" "seenWas" "[I") (by decide +kernel)
  have k1 := hts (.fieldLink RX6 36 "CaveLegsModel" "seenStation" "[I") (by decide +kernel)
  have k2 := hts (.fieldLink RX6 39 "CaveLegsModel" "seenOther" "[I") (by decide +kernel)
  have k3 := hts (.fieldLink RX6 20 "CaveLegsModel" "page" "[I") (by decide +kernel)
  have k4 := hts (.fieldLink RX6 42 "CaveLegsModel" "seenWide" "[I") (by decide +kernel)
  have J_92 : ∀ (s0 : Int32) (s1 : Int32) (H : Heap) (locs : List Loc) (ls : Array Slot), lv_has ls 4 [] → va_P (dC, dI) vwCl (wd_17ad18 k n_t n_text n_readPage n_page n_trial n_book n_kept n_isKept n_seenStation n_seenOther n_seenWide n_seenWas n_sines n_at n_column n_gram n_right n_work v_thrown v_textSize v_place v_stations v_readStations v_doings v_seen v_seed v_wide v_up v_low r_page r_seenStation r_seenOther r_seenWide r_seenWas) H → va_D A (wd_17ad18 k n_t n_text n_readPage n_page n_trial n_book n_kept n_isKept n_seenStation n_seenOther n_seenWide n_seenWas n_sines n_at n_column n_gram n_right n_work v_thrown v_textSize v_place v_stations v_readStations v_doings v_seen v_seed v_wide v_up v_low r_page r_seenStation r_seenOther r_seenWide r_seenWas) → va_S A s.heap H locs → f_X6_isSo_J92 F v_stations r_page r_seenStation r_seenOther r_seenWide r_seenWas s0 s1 = some o_r → W p l e rm_X6_isSo s m args below meth c H locs 0 0 Q (F0 m 92 ls [.int s1, .int s0]) := by
    intro s0 s1 H locs ls hl hP hD hS hm
    unfold f_X6_isSo_J92 at hm
    refine lv_icmp_ne (tgt := 99) hx hb dX6_isSo_92 (by decide) (fun c1 => ?_) (fun c1 => ?_)
    · replace hm := ifn c1 hm
      refine lv_iconst (v := (0 : Int32)) hx hb dX6_isSo_99 (by decide) ?_
      exact RET _ _ _ _ _ dX6_isSo_100 hm (by decide +kernel) hP hD hS
    · replace hm := ifp c1 hm
      refine lv_iconst (v := (1 : Int32)) hx hb dX6_isSo_95 (by decide) ?_
      refine lv_goto (tgt := 100) hx hb dX6_isSo_96 (by decide) ?_
      exact RET _ _ _ _ _ dX6_isSo_100 hm (by decide +kernel) hP hD hS
  have J_77 : ∀ (x2 : Int32) (s0 : Int32) (H : Heap) (locs : List Loc) (ls : Array Slot), lv_has ls 4 [(0, .ref n_t), (2, .int x2)] → va_P (dC, dI) vwCl (wd_17ad18 k n_t n_text n_readPage n_page n_trial n_book n_kept n_isKept n_seenStation n_seenOther n_seenWide n_seenWas n_sines n_at n_column n_gram n_right n_work v_thrown v_textSize v_place v_stations v_readStations v_doings v_seen v_seed v_wide v_up v_low r_page r_seenStation r_seenOther r_seenWide r_seenWas) H → va_D A (wd_17ad18 k n_t n_text n_readPage n_page n_trial n_book n_kept n_isKept n_seenStation n_seenOther n_seenWide n_seenWas n_sines n_at n_column n_gram n_right n_work v_thrown v_textSize v_place v_stations v_readStations v_doings v_seen v_seed v_wide v_up v_low r_page r_seenStation r_seenOther r_seenWide r_seenWas) → va_S A s.heap H locs → f_X6_isSo_J77 F v_stations r_page r_seenStation r_seenOther r_seenWide r_seenWas x2 s0 = some o_r → W p l e rm_X6_isSo s m args below meth c H locs 0 0 Q (F0 m 77 ls [.int s0]) := by
    intro x2 s0 H locs ls hl hP hD hS hm
    unfold f_X6_isSo_J77 at hm
    refine lv_aload_n hx hb dX6_isSo_77 rfl (lv_at hl 0 rfl) ?_
    refine va_get (D := (dC, dI)) (ci := 6) (v := .ref n_seenWas) (C := RX6) (T := TX6) (N := 28) hx hb hts hinX6 hown hG.1 hP 0 rfl rfl 17 (by decide) k0 (fun _ h9 => h9) rfl dX6_isSo_78 ?_
    refine lv_iload_n hx hb dX6_isSo_81 rfl (lv_at hl 1 rfl) ?_
    obtain ⟨hi2, hm⟩ := chk_some hm
    refine va_iald hx hb hG.1 hP 5 0 rfl rfl hi2 dX6_isSo_82 ?_
    refine lv_iconst (v := (1 : Int32)) hx hb dX6_isSo_83 (by decide) ?_
    refine lv_icmp_ne (tgt := 91) hx hb dX6_isSo_84 (by decide) (fun c3 => ?_) (fun c3 => ?_)
    · replace hm := ifn c3 hm
      refine lv_iconst (v := (0 : Int32)) hx hb dX6_isSo_91 (by decide) ?_
      exact J_92 _ _ _ _ _ (lv_sub hl [] rfl) hP hD hS hm
    · replace hm := ifp c3 hm
      refine lv_iconst (v := (1 : Int32)) hx hb dX6_isSo_87 (by decide) ?_
      refine lv_goto (tgt := 92) hx hb dX6_isSo_88 (by decide) ?_
      exact J_92 _ _ _ _ _ (lv_sub hl [] rfl) hP hD hS hm
  unfold f_X6_isSo at hm
  refine lv_aload_n hx hb dX6_isSo_0 rfl (lv_at hl 0 rfl) ?_
  refine lv_aload_n hx hb dX6_isSo_1 rfl (lv_at hl 0 rfl) ?_
  refine va_get (D := (dC, dI)) (ci := 6) (v := .ref n_seenStation) (C := RX6) (T := TX6) (N := 28) hx hb hts hinX6 hown hG.1 hP 0 rfl rfl 14 (by decide) k1 (fun _ h9 => h9) rfl dX6_isSo_2 ?_
  refine lv_iload_n hx hb dX6_isSo_5 rfl (lv_at hl 2 rfl) ?_
  obtain ⟨hi4, hm⟩ := chk_some hm
  refine va_iald hx hb hG.1 hP 2 0 rfl rfl hi4 dX6_isSo_6 ?_
  obtain ⟨r5, e6, hm⟩ := bnd1_some hm
  refine g_calli (w2 := (wd_17ad18 k n_t n_text n_readPage n_page n_trial n_book n_kept n_isKept n_seenStation n_seenOther n_seenWide n_seenWas n_sines n_at n_column n_gram n_right n_work v_thrown v_textSize v_place v_stations v_readStations v_doings v_seen v_seed v_wide v_up v_low r_page r_seenStation r_seenOther r_seenWide r_seenWas)) (va_runV (As := [.int (r_seenStation (Int32.toNatClampNeg x2))]) (rest := []) ⟨hx, hb, hml, hown, hts⟩ (m_X6_noStation l dC dI k H.size n_t n_text n_readPage n_page n_trial n_book n_kept n_isKept n_seenStation n_seenOther n_seenWide n_seenWas n_sines n_at n_column n_gram n_right n_work v_thrown v_textSize v_place v_stations v_readStations v_doings v_seen v_seed v_wide v_up v_low (r_seenStation (Int32.toNatClampNeg x2)) e6) (cwV 1 hts gX6_isSo_X6_noStation rfl rfl rfl (by decide +kernel) ⟨Nat.le_of_ble_eq_true rfl, Nat.le_of_ble_eq_true rfl⟩) (g_preV hG hP hD hS hA [0] rfl (by decide) (ci := 6) (q0 := 0) rfl rfl) rfl rfl hl.1 rfl (lv_room (Nat.le_of_ble_eq_true rfl)) dX6_isSo_7 ⟨Nat.le_of_ble_eq_true rfl, Nat.le_of_ble_eq_true rfl⟩) hP hD hS hA [0] [1, 2, 3, 4, 5] [5, 0, 1, 2, 3, 4] rfl rfl (by decide) (by decide) rfl (by decide) (fun H locs hP hD hS => ?_)
  refine lv_if_ne (tgt := 26) hx hb dX6_isSo_10 (by decide) (fun c7 => ?_) (fun c7 => ?_)
  · replace hm := ifn c7 hm
    refine lv_iconst (v := (1 : Int32)) hx hb dX6_isSo_26 (by decide) ?_
    exact RET _ _ _ _ _ dX6_isSo_27 hm (by decide +kernel) hP hD hS
  · replace hm := ifp c7 hm
    refine lv_aload_n hx hb dX6_isSo_13 rfl (lv_at hl 0 rfl) ?_
    refine lv_aload_n hx hb dX6_isSo_14 rfl (lv_at hl 0 rfl) ?_
    refine va_get (D := (dC, dI)) (ci := 6) (v := .ref n_seenOther) (C := RX6) (T := TX6) (N := 28) hx hb hts hinX6 hown hG.1 hP 0 rfl rfl 15 (by decide) k2 (fun _ h9 => h9) rfl dX6_isSo_15 ?_
    refine lv_iload_n hx hb dX6_isSo_18 rfl (lv_at hl 2 rfl) ?_
    obtain ⟨hi8, hm⟩ := chk_some hm
    refine va_iald hx hb hG.1 hP 3 0 rfl rfl hi8 dX6_isSo_19 ?_
    obtain ⟨r9, e10, hm⟩ := bnd1_some hm
    refine g_calli (w2 := (wd_17ad18 k n_t n_text n_readPage n_page n_trial n_book n_kept n_isKept n_seenStation n_seenOther n_seenWide n_seenWas n_sines n_at n_column n_gram n_right n_work v_thrown v_textSize v_place v_stations v_readStations v_doings v_seen v_seed v_wide v_up v_low r_page r_seenStation r_seenOther r_seenWide r_seenWas)) (va_runV (As := [.int (r_seenOther (Int32.toNatClampNeg x2))]) (rest := []) ⟨hx, hb, hml, hown, hts⟩ (m_X6_noStation l dC dI k H.size n_t n_text n_readPage n_page n_trial n_book n_kept n_isKept n_seenStation n_seenOther n_seenWide n_seenWas n_sines n_at n_column n_gram n_right n_work v_thrown v_textSize v_place v_stations v_readStations v_doings v_seen v_seed v_wide v_up v_low (r_seenOther (Int32.toNatClampNeg x2)) e10) (cwV 1 hts gX6_isSo_X6_noStation rfl rfl rfl (by decide +kernel) ⟨Nat.le_of_ble_eq_true rfl, Nat.le_of_ble_eq_true rfl⟩) (g_preV hG hP hD hS hA [0] rfl (by decide) (ci := 6) (q0 := 0) rfl rfl) rfl rfl hl.1 rfl (lv_room (Nat.le_of_ble_eq_true rfl)) dX6_isSo_20 ⟨Nat.le_of_ble_eq_true rfl, Nat.le_of_ble_eq_true rfl⟩) hP hD hS hA [0] [1, 2, 3, 4, 5] [5, 0, 1, 2, 3, 4] rfl rfl (by decide) (by decide) rfl (by decide) (fun H locs hP hD hS => ?_)
    refine lv_if_eq (tgt := 28) hx hb dX6_isSo_23 (by decide) (fun c11 => ?_) (fun c11 => ?_)
    · replace hm := ifp c11 hm
      refine lv_aload_n hx hb dX6_isSo_28 rfl (lv_at hl 0 rfl) ?_
      refine lv_aload_n hx hb dX6_isSo_29 rfl (lv_at hl 0 rfl) ?_
      refine va_get (D := (dC, dI)) (ci := 6) (v := .ref n_page) (C := RX6) (T := TX6) (N := 28) hx hb hts hinX6 hown hG.1 hP 0 rfl rfl 7 (by decide) k3 (fun _ h9 => h9) rfl dX6_isSo_30 ?_
      refine lv_aload_n hx hb dX6_isSo_33 rfl (lv_at hl 0 rfl) ?_
      refine va_get (D := (dC, dI)) (ci := 6) (v := .ref n_page) (C := RX6) (T := TX6) (N := 28) hx hb hts hinX6 hown hG.1 hP 0 rfl rfl 7 (by decide) k3 (fun _ h9 => h9) rfl dX6_isSo_34 ?_
      obtain ⟨r12, e13, hm⟩ := bnd1_some hm
      refine g_calli (w2 := (wd_17ad18 k n_t n_text n_readPage n_page n_trial n_book n_kept n_isKept n_seenStation n_seenOther n_seenWide n_seenWas n_sines n_at n_column n_gram n_right n_work v_thrown v_textSize v_place v_stations v_readStations v_doings v_seen v_seed v_wide v_up v_low r_page r_seenStation r_seenOther r_seenWide r_seenWas)) (va_runS (As := [.ref n_page]) (rest := [.ref n_page, .ref n_t]) ⟨hx, hb, hml, hown, hts⟩ (m_X6_openOnes l dC dI k H.size n_page r_page  e13) (va_cwS 1 hts gX6_isSo_X6_openOnes rfl rfl rfl (by decide +kernel) ⟨Nat.le_of_ble_eq_true rfl, Nat.le_of_ble_eq_true rfl⟩) (g_preS hG hP hD hS hA [1] rfl (by decide)) rfl rfl hl.1 rfl (lv_room (Nat.le_of_ble_eq_true rfl)) dX6_isSo_37 ⟨Nat.le_of_ble_eq_true rfl, Nat.le_of_ble_eq_true rfl⟩) hP hD hS hA [1] [0, 2, 3, 4, 5] [0, 5, 1, 2, 3, 4] rfl rfl (by decide) (by decide) rfl (by decide) (fun H locs hP hD hS => ?_)
      refine lv_iconst (v := (1 : Int32)) hx hb dX6_isSo_40 (by decide) ?_
      refine lv_iload_n hx hb dX6_isSo_41 rfl (lv_at hl 1 rfl) ?_
      refine g_ishl hx hb dX6_isSo_42 ?_
      refine lv_iconst (v := (-1 : Int32)) hx hb dX6_isSo_43 (by decide) ?_
      refine lv_ixor hx hb dX6_isSo_44 ?_
      refine lv_iand hx hb dX6_isSo_45 ?_
      refine lv_aload_n hx hb dX6_isSo_46 rfl (lv_at hl 0 rfl) ?_
      refine va_get (D := (dC, dI)) (ci := 6) (v := .ref n_seenStation) (C := RX6) (T := TX6) (N := 28) hx hb hts hinX6 hown hG.1 hP 0 rfl rfl 14 (by decide) k1 (fun _ h9 => h9) rfl dX6_isSo_47 ?_
      refine lv_iload_n hx hb dX6_isSo_50 rfl (lv_at hl 2 rfl) ?_
      obtain ⟨hi14, hm⟩ := chk_some hm
      refine va_iald hx hb hG.1 hP 2 0 rfl rfl hi14 dX6_isSo_51 ?_
      refine lv_aload_n hx hb dX6_isSo_52 rfl (lv_at hl 0 rfl) ?_
      refine va_get (D := (dC, dI)) (ci := 6) (v := .ref n_seenOther) (C := RX6) (T := TX6) (N := 28) hx hb hts hinX6 hown hG.1 hP 0 rfl rfl 15 (by decide) k2 (fun _ h9 => h9) rfl dX6_isSo_53 ?_
      refine lv_iload_n hx hb dX6_isSo_56 rfl (lv_at hl 2 rfl) ?_
      obtain ⟨hi15, hm⟩ := chk_some hm
      refine va_iald hx hb hG.1 hP 3 0 rfl rfl hi15 dX6_isSo_57 ?_
      obtain ⟨r16, e17, hm⟩ := bnd1_some hm
      refine g_calli (w2 := (wd_17ad18 k n_t n_text n_readPage n_page n_trial n_book n_kept n_isKept n_seenStation n_seenOther n_seenWide n_seenWas n_sines n_at n_column n_gram n_right n_work v_thrown v_textSize v_place v_stations v_readStations v_doings v_seen v_seed v_wide v_up v_low r_page r_seenStation r_seenOther r_seenWide r_seenWas)) (va_runV (As := [.ref n_page, .int (r12 &&& ((shlI (1 : Int32) x1) ^^^ (-1 : Int32))), .int (r_seenStation (Int32.toNatClampNeg x2)), .int (r_seenOther (Int32.toNatClampNeg x2))]) (rest := []) ⟨hx, hb, hml, hown, hts⟩ (m_X6_widestBy l dC dI k F H.size n_t n_page n_text n_readPage n_page n_trial n_book n_kept n_isKept n_seenStation n_seenOther n_seenWide n_seenWas n_sines n_at n_column n_gram n_right n_work v_thrown v_textSize v_place v_stations v_readStations v_doings v_seen v_seed v_wide v_up v_low r_page (r12 &&& ((shlI (1 : Int32) x1) ^^^ (-1 : Int32))) (r_seenStation (Int32.toNatClampNeg x2)) (r_seenOther (Int32.toNatClampNeg x2)) e17) (cwV 4 hts gX6_isSo_X6_widestBy rfl rfl rfl (by decide +kernel) ⟨Nat.le_of_ble_eq_true rfl, Nat.le_of_ble_eq_true rfl⟩) (g_preV hG hP hD hS hA [0, 1] rfl (by decide) (ci := 6) (q0 := 0) rfl rfl) rfl rfl hl.1 rfl (lv_room (Nat.le_of_ble_eq_true rfl)) dX6_isSo_58 ⟨Nat.le_of_ble_eq_true rfl, Nat.le_of_ble_eq_true rfl⟩) hP hD hS hA [0, 1] [2, 3, 4, 5] [4, 5, 0, 1, 2, 3] rfl rfl (by decide) (by decide) rfl (by decide) (fun H locs hP hD hS => ?_)
      refine lv_istore_n (lv' := [(3, .int r16), (0, .ref n_t), (1, .int x1), (2, .int x2)]) hx hb dX6_isSo_61 rfl hl (by decide) rfl (fun ls hl => ?_)
      refine lv_iload_n hx hb dX6_isSo_62 rfl (lv_at hl 0 rfl) ?_
      refine lv_aload_n hx hb dX6_isSo_63 rfl (lv_at hl 1 rfl) ?_
      refine va_get (D := (dC, dI)) (ci := 6) (v := .ref n_seenWide) (C := RX6) (T := TX6) (N := 28) hx hb hts hinX6 hown hG.1 hP 0 rfl rfl 16 (by decide) k4 (fun _ h9 => h9) rfl dX6_isSo_64 ?_
      refine lv_iload_n hx hb dX6_isSo_67 rfl (lv_at hl 3 rfl) ?_
      obtain ⟨hi18, hm⟩ := chk_some hm
      refine va_iald hx hb hG.1 hP 4 0 rfl rfl hi18 dX6_isSo_68 ?_
      refine lv_icmp_ne (tgt := 76) hx hb dX6_isSo_69 (by decide) (fun c19 => ?_) (fun c19 => ?_)
      · replace hm := ifn c19 hm
        refine lv_iconst (v := (0 : Int32)) hx hb dX6_isSo_76 (by decide) ?_
        exact J_77 _ _ _ _ _ (lv_sub hl [1, 3] rfl) hP hD hS hm
      · replace hm := ifp c19 hm
        refine lv_iconst (v := (1 : Int32)) hx hb dX6_isSo_72 (by decide) ?_
        refine lv_goto (tgt := 77) hx hb dX6_isSo_73 (by decide) ?_
        exact J_77 _ _ _ _ _ (lv_sub hl [1, 3] rfl) hP hD hS hm
    · replace hm := ifn c11 hm
      refine lv_iconst (v := (1 : Int32)) hx hb dX6_isSo_26 (by decide) ?_
      exact RET _ _ _ _ _ dX6_isSo_27 hm (by decide +kernel) hP hD hS
set_option maxRecDepth 100000 in
theorem m_X6_isSo (l : Launch) (dC : Nat → ClassId) (dI : Nat → Nat → Nat) (k : Nat → ClassId) (F : Nat) (sz : Nat) (n_t n_text n_readPage n_page n_trial n_book n_kept n_isKept n_seenStation n_seenOther n_seenWide n_seenWas n_sines n_at n_column n_gram n_right n_work : Nat) (v_thrown : Int32) (v_textSize : Int32) (v_place : Int32) (v_stations : Int32) (v_readStations : Int32) (v_doings : Int32) (v_seen : Int32) (v_seed : Int64) (v_wide : Int32) (v_up : Int64) (v_low : Int64) (r_page : Nat → Int32) (r_seenStation : Nat → Int32) (r_seenOther : Nat → Int32) (r_seenWide : Nat → Int32) (r_seenWas : Nat → Int32) (x1 : Int32) (x2 : Int32) {o_r : Int32} (hm : f_X6_isSo F x1 x2 v_stations r_page r_seenStation r_seenOther r_seenWide r_seenWas = some o_r) : Met l yX6_isSo wsX6_isSo rm_X6_isSo (gPre dC dI k [.ref n_t, .int x1, .int x2] sz (wd_17ad18 k n_t n_text n_readPage n_page n_trial n_book n_kept n_isKept n_seenStation n_seenOther n_seenWide n_seenWas n_sines n_at n_column n_gram n_right n_work v_thrown v_textSize v_place v_stations v_readStations v_doings v_seen v_seed v_wide v_up v_low r_page r_seenStation r_seenOther r_seenWide r_seenWas)) (gQI dC dI (va_A (wd_17ad18 k n_t n_text n_readPage n_page n_trial n_book n_kept n_isKept n_seenStation n_seenOther n_seenWide n_seenWas n_sines n_at n_column n_gram n_right n_work v_thrown v_textSize v_place v_stations v_readStations v_doings v_seen v_seed v_wide v_up v_low r_page r_seenStation r_seenOther r_seenWide r_seenWas) sz) o_r (wd_17ad18 k n_t n_text n_readPage n_page n_trial n_book n_kept n_isKept n_seenStation n_seenOther n_seenWide n_seenWas n_sines n_at n_column n_gram n_right n_work v_thrown v_textSize v_place v_stations v_readStations v_doings v_seen v_seed v_wide v_up v_low r_page r_seenStation r_seenOther r_seenWide r_seenWas)) 0 0 (va_A (wd_17ad18 k n_t n_text n_readPage n_page n_trial n_book n_kept n_isKept n_seenStation n_seenOther n_seenWide n_seenWas n_sines n_at n_column n_gram n_right n_work v_thrown v_textSize v_place v_stations v_readStations v_doings v_seen v_seed v_wide v_up v_low r_page r_seenStation r_seenOther r_seenWide r_seenWas) sz) := by
  refine g_entry (cc := cX6_isSo) (maxL := 4) (ret := (some .boolean)) (lv := [(0, .ref n_t), (1, .int x1), (2, .int x2)]) (by decide +kernel) rfl (Nat.le_of_ble_eq_true rfl) rfl (fun p e s m below meth c ls hx hb hr hml hts hown hlk hnm hsz hG hA hP hD hS hl => ?_)
  exact k_X6_isSo hx hb hml hts hown hG hA F n_t n_text n_readPage n_page n_trial n_book n_kept n_isKept n_seenStation n_seenOther n_seenWide n_seenWas n_sines n_at n_column n_gram n_right n_work v_thrown v_textSize v_place v_stations v_readStations v_doings v_seen v_seed v_wide v_up v_low r_page r_seenStation r_seenOther r_seenWide r_seenWas x1 x2 o_r (fun pc H locs ls v hd ho hz hP hD hS => by cases ho; exact g_iretz hx hb hr hlk hP hD hS hz hd) s.heap [] ls hl hP hD hS hm
end
section
set_option maxHeartbeats 4000000 in
set_option maxRecDepth 100000 in
theorem k_X6_which {p : Program} {l : Launch} {e : Env} {s : State} {m : MethodId} {args : Array Value} {below : List Frame} {meth : Method} {c : Code} {A : Nat → Prop} {Q : State → Prop} {dC : Nat → ClassId} {dI : Nat → Nat → Nat} {k : Nat → ClassId} (hx : p.tables.exec = Jvm.exec) (hb : c.code = cX6_which) (hml : c.maxLocals = 5) (hts : ∀ w ∈ wsX6_which, w.before args s = true) (hown : s.vm.findClass RX6 = some m.cls) (hG : gK dC dI k A s) (hA : ∀ q : Nat, s.heap.size ≤ q → A q) (F : Nat) (n_t n_text n_readPage n_page n_trial n_book n_kept n_isKept n_seenStation n_seenOther n_seenWide n_seenWas n_sines n_at n_column n_gram n_right n_work : Nat) (v_thrown : Int32) (v_textSize : Int32) (v_place : Int32) (v_stations : Int32) (v_readStations : Int32) (v_doings : Int32) (v_seen : Int32) (v_seed : Int64) (v_wide : Int32) (v_up : Int64) (v_low : Int64) (r_page : Nat → Int32) (r_seenStation : Nat → Int32) (r_seenOther : Nat → Int32) (r_seenWide : Nat → Int32) (r_seenWas : Nat → Int32) (o_r : Int32) (o_v_thrown : (Int32)) (RET : ∀ (pc : Nat) (H : Heap) (locs : List Loc) (ls : Array Slot) (v : Int32) (q_v_thrown : Int32), decode cX6_which pc = .ok (.ireturn, 1) → some (v, q_v_thrown) = some (o_r, o_v_thrown) → va_P (dC, dI) vwCl (wd_17ad18 k n_t n_text n_readPage n_page n_trial n_book n_kept n_isKept n_seenStation n_seenOther n_seenWide n_seenWas n_sines n_at n_column n_gram n_right n_work q_v_thrown v_textSize v_place v_stations v_readStations v_doings v_seen v_seed v_wide v_up v_low r_page r_seenStation r_seenOther r_seenWide r_seenWas) H → va_D A (wd_17ad18 k n_t n_text n_readPage n_page n_trial n_book n_kept n_isKept n_seenStation n_seenOther n_seenWide n_seenWas n_sines n_at n_column n_gram n_right n_work q_v_thrown v_textSize v_place v_stations v_readStations v_doings v_seen v_seed v_wide v_up v_low r_page r_seenStation r_seenOther r_seenWide r_seenWas) → va_S A s.heap H locs → W p l e rm_X6_which s m args below meth c H locs 0 0 Q (F0 m pc ls [.int v])) (H : Heap) (locs : List Loc) (ls : Array Slot) (hl : lv_has ls 5 [(0, .ref n_t)]) (hP : va_P (dC, dI) vwCl (wd_17ad18 k n_t n_text n_readPage n_page n_trial n_book n_kept n_isKept n_seenStation n_seenOther n_seenWide n_seenWas n_sines n_at n_column n_gram n_right n_work v_thrown v_textSize v_place v_stations v_readStations v_doings v_seen v_seed v_wide v_up v_low r_page r_seenStation r_seenOther r_seenWide r_seenWas) H) (hD : va_D A (wd_17ad18 k n_t n_text n_readPage n_page n_trial n_book n_kept n_isKept n_seenStation n_seenOther n_seenWide n_seenWas n_sines n_at n_column n_gram n_right n_work v_thrown v_textSize v_place v_stations v_readStations v_doings v_seen v_seed v_wide v_up v_low r_page r_seenStation r_seenOther r_seenWide r_seenWas)) (hS : va_S A s.heap H locs) (hm : f_X6_which F v_thrown v_stations v_seen r_page r_seenStation r_seenOther r_seenWide r_seenWas = some (o_r, o_v_thrown)) : W p l e rm_X6_which s m args below meth c H locs 0 0 Q (F0 m 0 ls []) := by
  have hinX6 : ∀ w ∈ u_ws RX6 TX6 28, w ∈ wsX6_which := by decide +kernel
  have k0 := hts (.fieldLink RX6 260 "CaveLegsModel" "seen" "I") (by decide +kernel)
  have k1 := hts (.fieldLink RX6 20 "CaveLegsModel" "page" "[I") (by decide +kernel)
  have k2 := hts (.fieldLink RX6 67 "CaveLegsModel" "thrown" "I") (by decide +kernel)
  have L_9 : ∀ (n9 : Nat) (v_thrown : Int32) (x1 : Int32) (x2 : Int32) (H : Heap) (locs : List Loc) (ls : Array Slot), lv_has ls 5 [(0, .ref n_t), (1, .int x1), (2, .int x2)] → va_P (dC, dI) vwCl (wd_17ad18 k n_t n_text n_readPage n_page n_trial n_book n_kept n_isKept n_seenStation n_seenOther n_seenWide n_seenWas n_sines n_at n_column n_gram n_right n_work v_thrown v_textSize v_place v_stations v_readStations v_doings v_seen v_seed v_wide v_up v_low r_page r_seenStation r_seenOther r_seenWide r_seenWas) H → va_D A (wd_17ad18 k n_t n_text n_readPage n_page n_trial n_book n_kept n_isKept n_seenStation n_seenOther n_seenWide n_seenWas n_sines n_at n_column n_gram n_right n_work v_thrown v_textSize v_place v_stations v_readStations v_doings v_seen v_seed v_wide v_up v_low r_page r_seenStation r_seenOther r_seenWide r_seenWas) → va_S A s.heap H locs → f_X6_which_L9 F v_stations v_seen r_page r_seenStation r_seenOther r_seenWide r_seenWas n9 v_thrown x1 x2 = some (o_r, o_v_thrown) → W p l e rm_X6_which s m args below meth c H locs 0 0 Q (F0 m 9 ls []) := by
    intro n9
    induction n9 with
    | zero =>
      intro v_thrown x1 x2 H locs ls hl hP hD hS hm
      exact non_some hm
    | succ n9 ih9 =>
      have J_81 : ∀ (v_thrown : Int32) (x2 : Int32) (s0 : Int32) (s1 : Int32) (H : Heap) (locs : List Loc) (ls : Array Slot), lv_has ls 5 [(0, .ref n_t), (2, .int x2)] → va_P (dC, dI) vwCl (wd_17ad18 k n_t n_text n_readPage n_page n_trial n_book n_kept n_isKept n_seenStation n_seenOther n_seenWide n_seenWas n_sines n_at n_column n_gram n_right n_work v_thrown v_textSize v_place v_stations v_readStations v_doings v_seen v_seed v_wide v_up v_low r_page r_seenStation r_seenOther r_seenWide r_seenWas) H → va_D A (wd_17ad18 k n_t n_text n_readPage n_page n_trial n_book n_kept n_isKept n_seenStation n_seenOther n_seenWide n_seenWas n_sines n_at n_column n_gram n_right n_work v_thrown v_textSize v_place v_stations v_readStations v_doings v_seen v_seed v_wide v_up v_low r_page r_seenStation r_seenOther r_seenWide r_seenWas) → va_S A s.heap H locs → f_X6_which_J81 F v_stations v_seen r_page r_seenStation r_seenOther r_seenWide r_seenWas (f_X6_which_L9 F v_stations v_seen r_page r_seenStation r_seenOther r_seenWide r_seenWas n9) v_thrown x2 s0 s1 = some (o_r, o_v_thrown) → W p l e rm_X6_which s m args below meth c H locs 0 0 Q (F0 m 81 ls [.int s1, .int s0]) := by
        intro v_thrown x2 s0 s1 H locs ls hl hP hD hS hm
        unfold f_X6_which_J81 at hm
        refine lv_ior hx hb dX6_which_81 ?_
        refine lv_topi (fun t1 et1 => ?_)
        replace hm := (nmd_eq et1).trans hm
        refine lv_istore_n (lv' := [(1, .int t1), (0, .ref n_t), (2, .int x2)]) hx hb dX6_which_82 rfl hl (by decide) rfl (fun ls hl => ?_)
        obtain ⟨t2, et2⟩ : ∃ y : Int32, y = x2 + (1 : Int32) := ⟨_, rfl⟩
        replace hm := (nmd_eq et2).trans hm
        refine lv_iinc (v := t2) (lv' := [(2, .int t2), (1, .int t1), (0, .ref n_t)]) hx hb dX6_which_83 hl (k := 2) rfl (by rw [et2]; rfl) (by decide) rfl (fun ls hl => ?_)
        refine lv_goto (tgt := 9) hx hb dX6_which_86 (by decide) ?_
        exact ih9 _ _ _ _ _ _ (lv_sub hl [2, 1, 0] rfl) hP hD hS hm
      have L_34 : ∀ (n34 : Nat) (v_thrown : Int32) (x1 : Int32) (x2 : Int32) (x3 : Int32) (x4 : Int32) (H : Heap) (locs : List Loc) (ls : Array Slot), lv_has ls 5 [(0, .ref n_t), (1, .int x1), (2, .int x2), (3, .int x3), (4, .int x4)] → va_P (dC, dI) vwCl (wd_17ad18 k n_t n_text n_readPage n_page n_trial n_book n_kept n_isKept n_seenStation n_seenOther n_seenWide n_seenWas n_sines n_at n_column n_gram n_right n_work v_thrown v_textSize v_place v_stations v_readStations v_doings v_seen v_seed v_wide v_up v_low r_page r_seenStation r_seenOther r_seenWide r_seenWas) H → va_D A (wd_17ad18 k n_t n_text n_readPage n_page n_trial n_book n_kept n_isKept n_seenStation n_seenOther n_seenWide n_seenWas n_sines n_at n_column n_gram n_right n_work v_thrown v_textSize v_place v_stations v_readStations v_doings v_seen v_seed v_wide v_up v_low r_page r_seenStation r_seenOther r_seenWide r_seenWas) → va_S A s.heap H locs → f_X6_which_L34 F v_stations v_seen r_page r_seenStation r_seenOther r_seenWide r_seenWas (f_X6_which_L9 F v_stations v_seen r_page r_seenStation r_seenOther r_seenWide r_seenWas n9) n34 v_thrown x1 x2 x3 x4 = some (o_r, o_v_thrown) → W p l e rm_X6_which s m args below meth c H locs 0 0 Q (F0 m 34 ls []) := by
        intro n34
        induction n34 with
        | zero =>
          intro v_thrown x1 x2 x3 x4 H locs ls hl hP hD hS hm
          exact non_some hm
        | succ n34 ih34 =>
          have J_62 : ∀ (v_thrown : Int32) (x1 : Int32) (x2 : Int32) (x4 : Int32) (s0 : Int32) (H : Heap) (locs : List Loc) (ls : Array Slot), lv_has ls 5 [(0, .ref n_t), (1, .int x1), (2, .int x2), (4, .int x4)] → va_P (dC, dI) vwCl (wd_17ad18 k n_t n_text n_readPage n_page n_trial n_book n_kept n_isKept n_seenStation n_seenOther n_seenWide n_seenWas n_sines n_at n_column n_gram n_right n_work v_thrown v_textSize v_place v_stations v_readStations v_doings v_seen v_seed v_wide v_up v_low r_page r_seenStation r_seenOther r_seenWide r_seenWas) H → va_D A (wd_17ad18 k n_t n_text n_readPage n_page n_trial n_book n_kept n_isKept n_seenStation n_seenOther n_seenWide n_seenWas n_sines n_at n_column n_gram n_right n_work v_thrown v_textSize v_place v_stations v_readStations v_doings v_seen v_seed v_wide v_up v_low r_page r_seenStation r_seenOther r_seenWide r_seenWas) → va_S A s.heap H locs → f_X6_which_J62 F v_stations v_seen r_page r_seenStation r_seenOther r_seenWide r_seenWas (f_X6_which_L9 F v_stations v_seen r_page r_seenStation r_seenOther r_seenWide r_seenWas n9) (f_X6_which_L34 F v_stations v_seen r_page r_seenStation r_seenOther r_seenWide r_seenWas (f_X6_which_L9 F v_stations v_seen r_page r_seenStation r_seenOther r_seenWide r_seenWas n9) n34) v_thrown x1 x2 x4 s0 = some (o_r, o_v_thrown) → W p l e rm_X6_which s m args below meth c H locs 0 0 Q (F0 m 62 ls [.int s0]) := by
            intro v_thrown x1 x2 x4 s0 H locs ls hl hP hD hS hm
            unfold f_X6_which_J62 at hm
            refine lv_istore_n (lv' := [(3, .int s0), (0, .ref n_t), (1, .int x1), (2, .int x2), (4, .int x4)]) hx hb dX6_which_62 rfl hl (by decide) rfl (fun ls hl => ?_)
            obtain ⟨t3, et3⟩ : ∃ y : Int32, y = x4 + (1 : Int32) := ⟨_, rfl⟩
            replace hm := (nmd_eq et3).trans hm
            refine lv_iinc (v := t3) (lv' := [(4, .int t3), (3, .int s0), (0, .ref n_t), (1, .int x1), (2, .int x2)]) hx hb dX6_which_63 hl (k := 4) rfl (by rw [et3]; rfl) (by decide) rfl (fun ls hl => ?_)
            refine lv_goto (tgt := 34) hx hb dX6_which_66 (by decide) ?_
            exact ih34 _ _ _ _ _ _ _ _ (lv_sub hl [2, 3, 4, 1, 0] rfl) hP hD hS hm
          have J_61 : ∀ (v_thrown : Int32) (x1 : Int32) (x2 : Int32) (x4 : Int32) (H : Heap) (locs : List Loc) (ls : Array Slot), lv_has ls 5 [(0, .ref n_t), (1, .int x1), (2, .int x2), (4, .int x4)] → va_P (dC, dI) vwCl (wd_17ad18 k n_t n_text n_readPage n_page n_trial n_book n_kept n_isKept n_seenStation n_seenOther n_seenWide n_seenWas n_sines n_at n_column n_gram n_right n_work v_thrown v_textSize v_place v_stations v_readStations v_doings v_seen v_seed v_wide v_up v_low r_page r_seenStation r_seenOther r_seenWide r_seenWas) H → va_D A (wd_17ad18 k n_t n_text n_readPage n_page n_trial n_book n_kept n_isKept n_seenStation n_seenOther n_seenWide n_seenWas n_sines n_at n_column n_gram n_right n_work v_thrown v_textSize v_place v_stations v_readStations v_doings v_seen v_seed v_wide v_up v_low r_page r_seenStation r_seenOther r_seenWide r_seenWas) → va_S A s.heap H locs → f_X6_which_J61 F v_stations v_seen r_page r_seenStation r_seenOther r_seenWide r_seenWas (f_X6_which_L9 F v_stations v_seen r_page r_seenStation r_seenOther r_seenWide r_seenWas n9) (f_X6_which_L34 F v_stations v_seen r_page r_seenStation r_seenOther r_seenWide r_seenWas (f_X6_which_L9 F v_stations v_seen r_page r_seenStation r_seenOther r_seenWide r_seenWas n9) n34) v_thrown x1 x2 x4 = some (o_r, o_v_thrown) → W p l e rm_X6_which s m args below meth c H locs 0 0 Q (F0 m 61 ls []) := by
            intro v_thrown x1 x2 x4 H locs ls hl hP hD hS hm
            unfold f_X6_which_J61 at hm
            refine lv_iconst (v := (0 : Int32)) hx hb dX6_which_61 (by decide) ?_
            exact J_62 _ _ _ _ _ _ _ _ (lv_sub hl [0, 1, 2, 3] rfl) hP hD hS hm
          intro v_thrown x1 x2 x3 x4 H locs ls hl hP hD hS hm
          replace hm : f_X6_which_B34 F v_stations v_seen r_page r_seenStation r_seenOther r_seenWide r_seenWas (f_X6_which_L9 F v_stations v_seen r_page r_seenStation r_seenOther r_seenWide r_seenWas n9) (f_X6_which_L34 F v_stations v_seen r_page r_seenStation r_seenOther r_seenWide r_seenWas (f_X6_which_L9 F v_stations v_seen r_page r_seenStation r_seenOther r_seenWide r_seenWas n9) n34) v_thrown x1 x2 x3 x4 = some (o_r, o_v_thrown) := hm
          unfold f_X6_which_B34 at hm
          refine lv_iload hx hb dX6_which_34 (lv_at hl 4 rfl) ?_
          refine lv_aload_n hx hb dX6_which_36 rfl (lv_at hl 0 rfl) ?_
          refine va_get (D := (dC, dI)) (ci := 6) (v := .int v_seen) (C := RX6) (T := TX6) (N := 28) hx hb hts hinX6 hown hG.1 hP 0 rfl rfl 13 (by decide) k0 (fun _ h9 => h9) rfl dX6_which_37 ?_
          refine lv_icmp_ge (tgt := 69) hx hb dX6_which_40 (by decide) (fun c4 => ?_) (fun c4 => ?_)
          · replace hm := ifp c4 hm
            refine lv_iload_n hx hb dX6_which_69 rfl (lv_at hl 1 rfl) ?_
            refine lv_iload_n hx hb dX6_which_70 rfl (lv_at hl 3 rfl) ?_
            refine lv_if_eq (tgt := 80) hx hb dX6_which_71 (by decide) (fun c5 => ?_) (fun c5 => ?_)
            · replace hm := ifp c5 hm
              refine lv_iconst (v := (0 : Int32)) hx hb dX6_which_80 (by decide) ?_
              exact J_81 _ _ _ _ _ _ _ (lv_sub hl [0, 2] rfl) hP hD hS hm
            · replace hm := ifn c5 hm
              refine lv_iconst (v := (1 : Int32)) hx hb dX6_which_74 (by decide) ?_
              refine lv_iload_n hx hb dX6_which_75 rfl (lv_at hl 2 rfl) ?_
              refine g_ishl hx hb dX6_which_76 ?_
              refine lv_goto (tgt := 81) hx hb dX6_which_77 (by decide) ?_
              exact J_81 _ _ _ _ _ _ _ (lv_sub hl [0, 2] rfl) hP hD hS hm
          · replace hm := ifn c4 hm
            refine lv_iload_n hx hb dX6_which_43 rfl (lv_at hl 3 rfl) ?_
            refine lv_if_eq (tgt := 61) hx hb dX6_which_44 (by decide) (fun c6 => ?_) (fun c6 => ?_)
            · replace hm := ifp c6 hm
              exact J_61 _ _ _ _ _ _ _ (lv_sub hl [0, 1, 2, 4] rfl) hP hD hS hm
            · replace hm := ifn c6 hm
              refine lv_aload_n hx hb dX6_which_47 rfl (lv_at hl 0 rfl) ?_
              refine lv_iload_n hx hb dX6_which_48 rfl (lv_at hl 2 rfl) ?_
              refine lv_iload hx hb dX6_which_49 (lv_at hl 4 rfl) ?_
              obtain ⟨r7, e8, hm⟩ := bnd1_some hm
              refine g_calli (w2 := (wd_17ad18 k n_t n_text n_readPage n_page n_trial n_book n_kept n_isKept n_seenStation n_seenOther n_seenWide n_seenWas n_sines n_at n_column n_gram n_right n_work v_thrown v_textSize v_place v_stations v_readStations v_doings v_seen v_seed v_wide v_up v_low r_page r_seenStation r_seenOther r_seenWide r_seenWas)) (va_runV (As := [.int x2, .int x4]) (rest := []) ⟨hx, hb, hml, hown, hts⟩ (m_X6_isSo l dC dI k F H.size n_t n_text n_readPage n_page n_trial n_book n_kept n_isKept n_seenStation n_seenOther n_seenWide n_seenWas n_sines n_at n_column n_gram n_right n_work v_thrown v_textSize v_place v_stations v_readStations v_doings v_seen v_seed v_wide v_up v_low r_page r_seenStation r_seenOther r_seenWide r_seenWas x2 x4 e8) (cwV 2 hts gX6_which_X6_isSo rfl rfl rfl (by decide +kernel) ⟨Nat.le_of_ble_eq_true rfl, Nat.le_of_ble_eq_true rfl⟩) (g_preV hG hP hD hS hA [0, 1, 2, 3, 4, 5] rfl (by decide) (ci := 6) (q0 := 0) rfl rfl) rfl rfl hl.1 rfl (lv_room (Nat.le_of_ble_eq_true rfl)) dX6_which_51 ⟨Nat.le_of_ble_eq_true rfl, Nat.le_of_ble_eq_true rfl⟩) hP hD hS hA [0, 1, 2, 3, 4, 5] [] [0, 1, 2, 3, 4, 5] rfl rfl (by decide) (by decide) rfl (by decide) (fun H locs hP hD hS => ?_)
              refine lv_if_eq (tgt := 61) hx hb dX6_which_54 (by decide) (fun c9 => ?_) (fun c9 => ?_)
              · replace hm := ifp c9 hm
                exact J_61 _ _ _ _ _ _ _ (lv_sub hl [0, 1, 2, 4] rfl) hP hD hS hm
              · replace hm := ifn c9 hm
                refine lv_iconst (v := (1 : Int32)) hx hb dX6_which_57 (by decide) ?_
                refine lv_goto (tgt := 62) hx hb dX6_which_58 (by decide) ?_
                exact J_62 _ _ _ _ _ _ _ _ (lv_sub hl [0, 1, 2, 4] rfl) hP hD hS hm
      intro v_thrown x1 x2 H locs ls hl hP hD hS hm
      replace hm : f_X6_which_B9 F v_stations v_seen r_page r_seenStation r_seenOther r_seenWide r_seenWas (f_X6_which_L9 F v_stations v_seen r_page r_seenStation r_seenOther r_seenWide r_seenWas n9) v_thrown x1 x2 = some (o_r, o_v_thrown) := hm
      unfold f_X6_which_B9 at hm
      refine lv_iload_n hx hb dX6_which_9 rfl (lv_at hl 2 rfl) ?_
      refine lv_aload_n hx hb dX6_which_10 rfl (lv_at hl 0 rfl) ?_
      refine va_get (D := (dC, dI)) (ci := 6) (v := .ref n_page) (C := RX6) (T := TX6) (N := 28) hx hb hts hinX6 hown hG.1 hP 0 rfl rfl 7 (by decide) k1 (fun _ h9 => h9) rfl dX6_which_11 ?_
      refine lv_iconst (v := (0 : Int32)) hx hb dX6_which_14 (by decide) ?_
      obtain ⟨hi10, hm⟩ := chk_some hm
      refine va_iald hx hb hG.1 hP 1 0 rfl rfl hi10 dX6_which_15 ?_
      refine lv_icmp_ge (tgt := 89) hx hb dX6_which_16 (by decide) (fun c11 => ?_) (fun c11 => ?_)
      · replace hm := ifp c11 hm
        refine lv_iload_n hx hb dX6_which_89 rfl (lv_at hl 1 rfl) ?_
        exact RET _ _ _ _ _ _ dX6_which_90 hm hP hD hS
      · replace hm := ifn c11 hm
        refine lv_aload_n hx hb dX6_which_19 rfl (lv_at hl 0 rfl) ?_
        refine va_get (D := (dC, dI)) (ci := 6) (v := .ref n_page) (C := RX6) (T := TX6) (N := 28) hx hb hts hinX6 hown hG.1 hP 0 rfl rfl 7 (by decide) k1 (fun _ h9 => h9) rfl dX6_which_20 ?_
        obtain ⟨r12, e13, hm⟩ := bnd1_some hm
        refine g_calli (w2 := (wd_17ad18 k n_t n_text n_readPage n_page n_trial n_book n_kept n_isKept n_seenStation n_seenOther n_seenWide n_seenWas n_sines n_at n_column n_gram n_right n_work v_thrown v_textSize v_place v_stations v_readStations v_doings v_seen v_seed v_wide v_up v_low r_page r_seenStation r_seenOther r_seenWide r_seenWas)) (va_runS (As := [.ref n_page]) (rest := []) ⟨hx, hb, hml, hown, hts⟩ (m_X6_openOnes l dC dI k H.size n_page r_page  e13) (va_cwS 1 hts gX6_which_X6_openOnes rfl rfl rfl (by decide +kernel) ⟨Nat.le_of_ble_eq_true rfl, Nat.le_of_ble_eq_true rfl⟩) (g_preS hG hP hD hS hA [1] rfl (by decide)) rfl rfl hl.1 rfl (lv_room (Nat.le_of_ble_eq_true rfl)) dX6_which_23 ⟨Nat.le_of_ble_eq_true rfl, Nat.le_of_ble_eq_true rfl⟩) hP hD hS hA [1] [0, 2, 3, 4, 5] [0, 5, 1, 2, 3, 4] rfl rfl (by decide) (by decide) rfl (by decide) (fun H locs hP hD hS => ?_)
        refine lv_iload_n hx hb dX6_which_26 rfl (lv_at hl 2 rfl) ?_
        obtain ⟨r14, e15, hm⟩ := bnd1_some hm
        refine g_calli (w2 := (wd_17ad18 k n_t n_text n_readPage n_page n_trial n_book n_kept n_isKept n_seenStation n_seenOther n_seenWide n_seenWas n_sines n_at n_column n_gram n_right n_work v_thrown v_textSize v_place v_stations v_readStations v_doings v_seen v_seed v_wide v_up v_low r_page r_seenStation r_seenOther r_seenWide r_seenWas)) (va_runS (As := [.int r12, .int x2]) (rest := []) ⟨hx, hb, hml, hown, hts⟩ (m_X6_has l dC dI k H.size  r12 x2 e15) (va_cwS 2 hts gX6_which_X6_has rfl rfl rfl (by decide +kernel) ⟨Nat.le_of_ble_eq_true rfl, Nat.le_of_ble_eq_true rfl⟩) (g_preS hG hP hD hS hA [] rfl (by decide)) rfl rfl hl.1 rfl (lv_room (Nat.le_of_ble_eq_true rfl)) dX6_which_27 ⟨Nat.le_of_ble_eq_true rfl, Nat.le_of_ble_eq_true rfl⟩) hP hD hS hA [] [0, 1, 2, 3, 4, 5] [0, 1, 2, 3, 4, 5] rfl rfl (by decide) (by decide) rfl (by decide) (fun H locs hP hD hS => ?_)
        refine lv_istore_n (lv' := [(3, .int r14), (0, .ref n_t), (1, .int x1), (2, .int x2)]) hx hb dX6_which_30 rfl hl (by decide) rfl (fun ls hl => ?_)
        refine lv_iconst (v := (0 : Int32)) hx hb dX6_which_31 (by decide) ?_
        refine lv_istore (lv' := [(4, .int (0 : Int32)), (3, .int r14), (0, .ref n_t), (1, .int x1), (2, .int x2)]) hx hb dX6_which_32 hl (by decide) rfl (fun ls hl => ?_)
        exact L_34 F _ _ _ _ _ _ _ _ (lv_sub hl [2, 3, 4, 1, 0] rfl) hP hD hS hm
  unfold f_X6_which at hm
  refine lv_aload_n hx hb dX6_which_0 rfl (lv_at hl 0 rfl) ?_
  refine lv_iconst (v := (0 : Int32)) hx hb dX6_which_1 (by decide) ?_
  refine va_put (D := (dC, dI)) (ci := 6) (v := .int (0 : Int32)) (ty := .int) (C := RX6) (T := TX6) (N := 28) hx hb hts hinX6 tyX6 tyX6_ok nmX6 hown hG.1 hP hD hS 0 rfl rfl 0 (by decide) k2 (fun _ h9 => h9) rfl (by decide +kernel) rfl rfl (Nat.le_of_ble_eq_true rfl) dX6_which_2 (fun H locs hP hD hS => ?_)
  replace hP : va_P (dC, dI) vwCl (wd_17ad18 k n_t n_text n_readPage n_page n_trial n_book n_kept n_isKept n_seenStation n_seenOther n_seenWide n_seenWas n_sines n_at n_column n_gram n_right n_work (0 : Int32) v_textSize v_place v_stations v_readStations v_doings v_seen v_seed v_wide v_up v_low r_page r_seenStation r_seenOther r_seenWide r_seenWas) H := hP
  replace hD : va_D A (wd_17ad18 k n_t n_text n_readPage n_page n_trial n_book n_kept n_isKept n_seenStation n_seenOther n_seenWide n_seenWas n_sines n_at n_column n_gram n_right n_work (0 : Int32) v_textSize v_place v_stations v_readStations v_doings v_seen v_seed v_wide v_up v_low r_page r_seenStation r_seenOther r_seenWide r_seenWas) := hD
  refine lv_iconst (v := (0 : Int32)) hx hb dX6_which_5 (by decide) ?_
  refine lv_istore_n (lv' := [(1, .int (0 : Int32)), (0, .ref n_t)]) hx hb dX6_which_6 rfl hl (by decide) rfl (fun ls hl => ?_)
  refine lv_iconst (v := (0 : Int32)) hx hb dX6_which_7 (by decide) ?_
  refine lv_istore_n (lv' := [(2, .int (0 : Int32)), (1, .int (0 : Int32)), (0, .ref n_t)]) hx hb dX6_which_8 rfl hl (by decide) rfl (fun ls hl => ?_)
  exact L_9 F _ _ _ _ _ _ (lv_sub hl [2, 1, 0] rfl) hP hD hS hm
set_option maxRecDepth 100000 in
theorem m_X6_which (l : Launch) (dC : Nat → ClassId) (dI : Nat → Nat → Nat) (k : Nat → ClassId) (F : Nat) (sz : Nat) (n_t n_text n_readPage n_page n_trial n_book n_kept n_isKept n_seenStation n_seenOther n_seenWide n_seenWas n_sines n_at n_column n_gram n_right n_work : Nat) (v_thrown : Int32) (v_textSize : Int32) (v_place : Int32) (v_stations : Int32) (v_readStations : Int32) (v_doings : Int32) (v_seen : Int32) (v_seed : Int64) (v_wide : Int32) (v_up : Int64) (v_low : Int64) (r_page : Nat → Int32) (r_seenStation : Nat → Int32) (r_seenOther : Nat → Int32) (r_seenWide : Nat → Int32) (r_seenWas : Nat → Int32) {o_r : Int32} {o_v_thrown : (Int32)} (hm : f_X6_which F v_thrown v_stations v_seen r_page r_seenStation r_seenOther r_seenWide r_seenWas = some (o_r, o_v_thrown)) : Met l yX6_which wsX6_which rm_X6_which (gPre dC dI k [.ref n_t] sz (wd_17ad18 k n_t n_text n_readPage n_page n_trial n_book n_kept n_isKept n_seenStation n_seenOther n_seenWide n_seenWas n_sines n_at n_column n_gram n_right n_work v_thrown v_textSize v_place v_stations v_readStations v_doings v_seen v_seed v_wide v_up v_low r_page r_seenStation r_seenOther r_seenWide r_seenWas)) (gQI dC dI (va_A (wd_17ad18 k n_t n_text n_readPage n_page n_trial n_book n_kept n_isKept n_seenStation n_seenOther n_seenWide n_seenWas n_sines n_at n_column n_gram n_right n_work v_thrown v_textSize v_place v_stations v_readStations v_doings v_seen v_seed v_wide v_up v_low r_page r_seenStation r_seenOther r_seenWide r_seenWas) sz) o_r (wd_17ad18 k n_t n_text n_readPage n_page n_trial n_book n_kept n_isKept n_seenStation n_seenOther n_seenWide n_seenWas n_sines n_at n_column n_gram n_right n_work o_v_thrown v_textSize v_place v_stations v_readStations v_doings v_seen v_seed v_wide v_up v_low r_page r_seenStation r_seenOther r_seenWide r_seenWas)) 0 0 (va_A (wd_17ad18 k n_t n_text n_readPage n_page n_trial n_book n_kept n_isKept n_seenStation n_seenOther n_seenWide n_seenWas n_sines n_at n_column n_gram n_right n_work v_thrown v_textSize v_place v_stations v_readStations v_doings v_seen v_seed v_wide v_up v_low r_page r_seenStation r_seenOther r_seenWide r_seenWas) sz) := by
  refine g_entry (cc := cX6_which) (maxL := 5) (ret := (some .int)) (lv := [(0, .ref n_t)]) (by decide +kernel) rfl (Nat.le_of_ble_eq_true rfl) rfl (fun p e s m below meth c ls hx hb hr hml hts hown hlk hnm hsz hG hA hP hD hS hl => ?_)
  exact k_X6_which hx hb hml hts hown hG hA F n_t n_text n_readPage n_page n_trial n_book n_kept n_isKept n_seenStation n_seenOther n_seenWide n_seenWas n_sines n_at n_column n_gram n_right n_work v_thrown v_textSize v_place v_stations v_readStations v_doings v_seen v_seed v_wide v_up v_low r_page r_seenStation r_seenOther r_seenWide r_seenWas o_r o_v_thrown (fun pc H locs ls v q_v_thrown hd ho hP hD hS => by cases ho; exact g_ireti hx hb hr hlk hP hD hS hd) s.heap [] ls hl hP hD hS hm
end
section
set_option maxHeartbeats 4000000 in
set_option maxRecDepth 100000 in
theorem k_X6_factorial {p : Program} {l : Launch} {e : Env} {s : State} {m : MethodId} {args : Array Value} {below : List Frame} {meth : Method} {c : Code} {A : Nat → Prop} {Q : State → Prop} {dC : Nat → ClassId} {dI : Nat → Nat → Nat} {k : Nat → ClassId} (hx : p.tables.exec = Jvm.exec) (hb : c.code = cX6_factorial) (hml : c.maxLocals = 3) (hts : ∀ w ∈ wsX6_factorial, w.before args s = true) (hown : s.vm.findClass RX6 = some m.cls) (hG : gK dC dI k A s) (hA : ∀ q : Nat, s.heap.size ≤ q → A q) (F : Nat)  (x0 : Int32) (o_r : Int32) (RET : ∀ (pc : Nat) (H : Heap) (locs : List Loc) (ls : Array Slot) (v : Int32), decode cX6_factorial pc = .ok (.ireturn, 1) → some v = some o_r → va_P (dC, dI) vwCl [] H → va_D A [] → va_S A s.heap H locs → W p l e rm_X6_factorial s m args below meth c H locs 0 0 Q (F0 m pc ls [.int v])) (H : Heap) (locs : List Loc) (ls : Array Slot) (hl : lv_has ls 3 [(0, .int x0)]) (hP : va_P (dC, dI) vwCl [] H) (hD : va_D A []) (hS : va_S A s.heap H locs) (hm : f_X6_factorial F x0 = some o_r) : W p l e rm_X6_factorial s m args below meth c H locs 0 0 Q (F0 m 0 ls []) := by
  have L_4 : ∀ (n4 : Nat) (x0 : Int32) (x1 : Int32) (x2 : Int32) (H : Heap) (locs : List Loc) (ls : Array Slot), lv_has ls 3 [(0, .int x0), (1, .int x1), (2, .int x2)] → va_P (dC, dI) vwCl [] H → va_D A [] → va_S A s.heap H locs → f_X6_factorial_L4 F n4 x0 x1 x2 = some o_r → W p l e rm_X6_factorial s m args below meth c H locs 0 0 Q (F0 m 4 ls []) := by
    intro n4
    induction n4 with
    | zero =>
      intro x0 x1 x2 H locs ls hl hP hD hS hm
      exact non_some hm
    | succ n4 ih4 =>
      intro x0 x1 x2 H locs ls hl hP hD hS hm
      replace hm : f_X6_factorial_B4 F (f_X6_factorial_L4 F n4) x0 x1 x2 = some o_r := hm
      unfold f_X6_factorial_B4 at hm
      refine lv_iload_n hx hb dX6_factorial_4 rfl (lv_at hl 2 rfl) ?_
      refine lv_iload_n hx hb dX6_factorial_5 rfl (lv_at hl 0 rfl) ?_
      refine lv_icmp_gt (tgt := 19) hx hb dX6_factorial_6 (by decide) (fun c1 => ?_) (fun c1 => ?_)
      · replace hm := ifp c1 hm
        refine lv_iload_n hx hb dX6_factorial_19 rfl (lv_at hl 1 rfl) ?_
        exact RET _ _ _ _ _ dX6_factorial_20 hm hP hD hS
      · replace hm := ifn c1 hm
        refine lv_iload_n hx hb dX6_factorial_9 rfl (lv_at hl 1 rfl) ?_
        refine lv_iload_n hx hb dX6_factorial_10 rfl (lv_at hl 2 rfl) ?_
        refine lv_imul hx hb dX6_factorial_11 ?_
        refine lv_topi (fun t2 et2 => ?_)
        replace hm := (nmd_eq et2).trans hm
        refine lv_istore_n (lv' := [(1, .int t2), (0, .int x0), (2, .int x2)]) hx hb dX6_factorial_12 rfl hl (by decide) rfl (fun ls hl => ?_)
        obtain ⟨t3, et3⟩ : ∃ y : Int32, y = x2 + (1 : Int32) := ⟨_, rfl⟩
        replace hm := (nmd_eq et3).trans hm
        refine lv_iinc (v := t3) (lv' := [(2, .int t3), (1, .int t2), (0, .int x0)]) hx hb dX6_factorial_13 hl (k := 2) rfl (by rw [et3]; rfl) (by decide) rfl (fun ls hl => ?_)
        refine lv_goto (tgt := 4) hx hb dX6_factorial_16 (by decide) ?_
        exact ih4 _ _ _ _ _ _ (lv_sub hl [2, 1, 0] rfl) hP hD hS hm
  unfold f_X6_factorial at hm
  refine lv_iconst (v := (1 : Int32)) hx hb dX6_factorial_0 (by decide) ?_
  refine lv_istore_n (lv' := [(1, .int (1 : Int32)), (0, .int x0)]) hx hb dX6_factorial_1 rfl hl (by decide) rfl (fun ls hl => ?_)
  refine lv_iconst (v := (2 : Int32)) hx hb dX6_factorial_2 (by decide) ?_
  refine lv_istore_n (lv' := [(2, .int (2 : Int32)), (1, .int (1 : Int32)), (0, .int x0)]) hx hb dX6_factorial_3 rfl hl (by decide) rfl (fun ls hl => ?_)
  exact L_4 F _ _ _ _ _ _ (lv_sub hl [2, 1, 0] rfl) hP hD hS hm
set_option maxRecDepth 100000 in
theorem m_X6_factorial (l : Launch) (dC : Nat → ClassId) (dI : Nat → Nat → Nat) (k : Nat → ClassId) (F : Nat) (sz : Nat)  (x0 : Int32) {o_r : Int32} (hm : f_X6_factorial F x0 = some o_r) : Met l yX6_factorial wsX6_factorial rm_X6_factorial (gPre dC dI k [.int x0] sz []) (gQI dC dI (va_A [] sz) o_r []) 0 0 (va_A [] sz) := by
  refine g_entry (cc := cX6_factorial) (maxL := 3) (ret := (some .int)) (lv := [(0, .int x0)]) (by decide +kernel) rfl (Nat.le_of_ble_eq_true rfl) rfl (fun p e s m below meth c ls hx hb hr hml hts hown hlk hnm hsz hG hA hP hD hS hl => ?_)
  exact k_X6_factorial hx hb hml hts hown hG hA F x0 o_r (fun pc H locs ls v hd ho hP hD hS => by cases ho; exact g_ireti hx hb hr hlk hP hD hS hd) s.heap [] ls hl hP hD hS hm
end
section
set_option maxHeartbeats 4000000 in
set_option maxRecDepth 100000 in
theorem k_X6_share {p : Program} {l : Launch} {e : Env} {s : State} {m : MethodId} {args : Array Value} {below : List Frame} {meth : Method} {c : Code} {A : Nat → Prop} {Q : State → Prop} {dC : Nat → ClassId} {dI : Nat → Nat → Nat} {k : Nat → ClassId} (hx : p.tables.exec = Jvm.exec) (hb : c.code = cX6_share) (hml : c.maxLocals = 9) (hts : ∀ w ∈ wsX6_share, w.before args s = true) (hown : s.vm.findClass RX6 = some m.cls) (hG : gK dC dI k A s) (hA : ∀ q : Nat, s.heap.size ≤ q → A q) (F : Nat) (n_t n_text n_readPage n_page n_trial n_book n_kept n_isKept n_seenStation n_seenOther n_seenWide n_seenWas n_sines n_at n_column n_gram n_right n_work : Nat) (v_thrown : Int32) (v_textSize : Int32) (v_place : Int32) (v_stations : Int32) (v_readStations : Int32) (v_doings : Int32) (v_seen : Int32) (v_seed : Int64) (v_wide : Int32) (v_up : Int64) (v_low : Int64) (r_page : Nat → Int32) (x1 : Int32) (x2 : Int32) (o_r : Int32) (o_v_thrown : (Int32)) (o_v_up : (Int64)) (o_v_low : (Int64)) (RET : ∀ (pc : Nat) (H : Heap) (locs : List Loc) (ls : Array Slot) (v : Int32) (q_v_thrown : Int32) (q_v_up : Int64) (q_v_low : Int64), decode cX6_share pc = .ok (.ireturn, 1) → some (v, q_v_thrown, q_v_up, q_v_low) = some (o_r, o_v_thrown, o_v_up, o_v_low) → va_P (dC, dI) vwCl (wd_6d76fb k n_t n_text n_readPage n_page n_trial n_book n_kept n_isKept n_seenStation n_seenOther n_seenWide n_seenWas n_sines n_at n_column n_gram n_right n_work q_v_thrown v_textSize v_place v_stations v_readStations v_doings v_seen v_seed v_wide q_v_up q_v_low r_page) H → va_D A (wd_6d76fb k n_t n_text n_readPage n_page n_trial n_book n_kept n_isKept n_seenStation n_seenOther n_seenWide n_seenWas n_sines n_at n_column n_gram n_right n_work q_v_thrown v_textSize v_place v_stations v_readStations v_doings v_seen v_seed v_wide q_v_up q_v_low r_page) → va_S A s.heap H locs → W p l e rm_X6_share s m args below meth c H locs 0 0 Q (F0 m pc ls [.int v])) (H : Heap) (locs : List Loc) (ls : Array Slot) (hl : lv_has ls 9 [(0, .ref n_t), (1, .int x1), (2, .int x2)]) (hP : va_P (dC, dI) vwCl (wd_6d76fb k n_t n_text n_readPage n_page n_trial n_book n_kept n_isKept n_seenStation n_seenOther n_seenWide n_seenWas n_sines n_at n_column n_gram n_right n_work v_thrown v_textSize v_place v_stations v_readStations v_doings v_seen v_seed v_wide v_up v_low r_page) H) (hD : va_D A (wd_6d76fb k n_t n_text n_readPage n_page n_trial n_book n_kept n_isKept n_seenStation n_seenOther n_seenWide n_seenWas n_sines n_at n_column n_gram n_right n_work v_thrown v_textSize v_place v_stations v_readStations v_doings v_seen v_seed v_wide v_up v_low r_page)) (hS : va_S A s.heap H locs) (hm : f_X6_share F x1 x2 v_thrown v_up v_low r_page = some (o_r, o_v_thrown, o_v_up, o_v_low)) : W p l e rm_X6_share s m args below meth c H locs 0 0 Q (F0 m 0 ls []) := by
  have hinX6 : ∀ w ∈ u_ws RX6 TX6 28, w ∈ wsX6_share := by decide +kernel
  have k0 := hts (.fieldLink RX6 20 "CaveLegsModel" "page" "[I") (by decide +kernel)
  have k1 := hts (.fieldLink RX6 67 "CaveLegsModel" "thrown" "I") (by decide +kernel)
  have L_46 : ∀ (n46 : Nat) (v_thrown : Int32) (v_up : Int64) (v_low : Int64) (x1 : Int32) (x2 : Int32) (x3 : Int32) (x4 : Int32) (x5 : Int64) (x7 : Int32) (H : Heap) (locs : List Loc) (ls : Array Slot), lv_has ls 9 [(0, .ref n_t), (1, .int x1), (2, .int x2), (3, .int x3), (4, .int x4), (5, .long x5), (7, .int x7)] → va_P (dC, dI) vwCl (wd_6d76fb k n_t n_text n_readPage n_page n_trial n_book n_kept n_isKept n_seenStation n_seenOther n_seenWide n_seenWas n_sines n_at n_column n_gram n_right n_work v_thrown v_textSize v_place v_stations v_readStations v_doings v_seen v_seed v_wide v_up v_low r_page) H → va_D A (wd_6d76fb k n_t n_text n_readPage n_page n_trial n_book n_kept n_isKept n_seenStation n_seenOther n_seenWide n_seenWas n_sines n_at n_column n_gram n_right n_work v_thrown v_textSize v_place v_stations v_readStations v_doings v_seen v_seed v_wide v_up v_low r_page) → va_S A s.heap H locs → f_X6_share_L46 F r_page n46 v_thrown v_up v_low x1 x2 x3 x4 x5 x7 = some (o_r, o_v_thrown, o_v_up, o_v_low) → W p l e rm_X6_share s m args below meth c H locs 0 0 Q (F0 m 46 ls []) := by
    intro n46
    induction n46 with
    | zero =>
      intro v_thrown v_up v_low x1 x2 x3 x4 x5 x7 H locs ls hl hP hD hS hm
      exact non_some hm
    | succ n46 ih46 =>
      have J_136 : ∀ (v_thrown : Int32) (v_up : Int64) (v_low : Int64) (x1 : Int32) (x2 : Int32) (x3 : Int32) (x4 : Int32) (x5 : Int64) (x7 : Int32) (H : Heap) (locs : List Loc) (ls : Array Slot), lv_has ls 9 [(0, .ref n_t), (1, .int x1), (2, .int x2), (3, .int x3), (4, .int x4), (5, .long x5), (7, .int x7)] → va_P (dC, dI) vwCl (wd_6d76fb k n_t n_text n_readPage n_page n_trial n_book n_kept n_isKept n_seenStation n_seenOther n_seenWide n_seenWas n_sines n_at n_column n_gram n_right n_work v_thrown v_textSize v_place v_stations v_readStations v_doings v_seen v_seed v_wide v_up v_low r_page) H → va_D A (wd_6d76fb k n_t n_text n_readPage n_page n_trial n_book n_kept n_isKept n_seenStation n_seenOther n_seenWide n_seenWas n_sines n_at n_column n_gram n_right n_work v_thrown v_textSize v_place v_stations v_readStations v_doings v_seen v_seed v_wide v_up v_low r_page) → va_S A s.heap H locs → f_X6_share_J136 F r_page (f_X6_share_L46 F r_page n46) v_thrown v_up v_low x1 x2 x3 x4 x5 x7 = some (o_r, o_v_thrown, o_v_up, o_v_low) → W p l e rm_X6_share s m args below meth c H locs 0 0 Q (F0 m 136 ls []) := by
        intro v_thrown v_up v_low x1 x2 x3 x4 x5 x7 H locs ls hl hP hD hS hm
        unfold f_X6_share_J136 at hm
        obtain ⟨t1, et1⟩ : ∃ y : Int32, y = x7 + (1 : Int32) := ⟨_, rfl⟩
        replace hm := (nmd_eq et1).trans hm
        refine lv_iinc (v := t1) (lv' := [(7, .int t1), (0, .ref n_t), (1, .int x1), (2, .int x2), (3, .int x3), (4, .int x4), (5, .long x5)]) hx hb dX6_share_136 hl (k := 6) rfl (by rw [et1]; rfl) (by decide) rfl (fun ls hl => ?_)
        refine lv_goto (tgt := 46) hx hb dX6_share_139 (by decide) ?_
        exact ih46 _ _ _ _ _ _ _ _ _ _ _ _ (lv_sub hl [1, 2, 3, 4, 5, 6, 0] rfl) hP hD hS hm
      intro v_thrown v_up v_low x1 x2 x3 x4 x5 x7 H locs ls hl hP hD hS hm
      replace hm : f_X6_share_B46 F r_page (f_X6_share_L46 F r_page n46) v_thrown v_up v_low x1 x2 x3 x4 x5 x7 = some (o_r, o_v_thrown, o_v_up, o_v_low) := hm
      unfold f_X6_share_B46 at hm
      refine lv_iload hx hb dX6_share_46 (lv_at hl 6 rfl) ?_
      refine lv_iload_n hx hb dX6_share_48 rfl (lv_at hl 3 rfl) ?_
      refine lv_icmp_gt (tgt := 142) hx hb dX6_share_49 (by decide) (fun c2 => ?_) (fun c2 => ?_)
      · replace hm := ifp c2 hm
        refine lv_aload_n hx hb dX6_share_142 rfl (lv_at hl 0 rfl) ?_
        refine lv_lload hx hb dX6_share_143 (lv_at hl 5 rfl) ?_
        refine lv_iload hx hb dX6_share_145 (lv_at hl 4 rfl) ?_
        obtain ⟨r3, e4, hm⟩ := bnd1_some hm
        refine g_calli (w2 := (wd_6d76fb k n_t n_text n_readPage n_page n_trial n_book n_kept n_isKept n_seenStation n_seenOther n_seenWide n_seenWas n_sines n_at n_column n_gram n_right n_work v_thrown v_textSize v_place v_stations v_readStations v_doings v_seen v_seed v_wide v_up v_low r_page)) (va_runS (As := [.int x4]) (rest := [.long x5, .ref n_t]) ⟨hx, hb, hml, hown, hts⟩ (m_X6_factorial l dC dI k F H.size  x4 e4) (va_cwS 1 hts gX6_share_X6_factorial rfl rfl rfl (by decide +kernel) ⟨Nat.le_of_ble_eq_true rfl, Nat.le_of_ble_eq_true rfl⟩) (g_preS hG hP hD hS hA [] rfl (by decide)) rfl rfl hl.1 rfl (lv_room (Nat.le_of_ble_eq_true rfl)) dX6_share_147 ⟨Nat.le_of_ble_eq_true rfl, Nat.le_of_ble_eq_true rfl⟩) hP hD hS hA [] [0, 1] [0, 1] rfl rfl (by decide) (by decide) rfl (by decide) (fun H locs hP hD hS => ?_)
        refine g_i2l hx hb dX6_share_150 ?_
        obtain ⟨w5, w6, e7, hm⟩ := bnd2_some hm
        refine g_callv (w2 := (wd_6d76fb k n_t n_text n_readPage n_page n_trial n_book n_kept n_isKept n_seenStation n_seenOther n_seenWide n_seenWas n_sines n_at n_column n_gram n_right n_work v_thrown v_textSize v_place v_stations v_readStations v_doings v_seen v_seed v_wide w5 w6 r_page)) (va_runV (As := [.long x5, .long (Int32.toInt64 r3)]) (rest := []) ⟨hx, hb, hml, hown, hts⟩ (m_X6_layFraction l dC dI k F H.size n_t n_text n_readPage n_page n_trial n_book n_kept n_isKept n_seenStation n_seenOther n_seenWide n_seenWas n_sines n_at n_column n_gram n_right n_work v_thrown v_textSize v_place v_stations v_readStations v_doings v_seen v_seed v_wide v_up v_low x5 (Int32.toInt64 r3) e7) (cwV 2 hts gX6_share_X6_layFraction rfl rfl rfl (by decide +kernel) ⟨Nat.le_of_ble_eq_true rfl, Nat.le_of_ble_eq_true rfl⟩) (g_preV hG hP hD hS hA [0] rfl (by decide) (ci := 6) (q0 := 0) rfl rfl) rfl rfl hl.1 rfl (lv_room (Nat.le_of_ble_eq_true rfl)) dX6_share_151 ⟨Nat.le_of_ble_eq_true rfl, Nat.le_of_ble_eq_true rfl⟩) hP hD hS hA [0] [1] [1, 0] rfl rfl (by decide) (by decide) rfl (by decide) (fun H locs hP hD hS => ?_)
        refine lv_aload_n hx hb dX6_share_154 rfl (lv_at hl 0 rfl) ?_
        refine lv_iload_n hx hb dX6_share_155 rfl (lv_at hl 2 rfl) ?_
        obtain ⟨r8, e9, hm⟩ := bnd1_some hm
        refine g_calll (w2 := (wd_6d76fb k n_t n_text n_readPage n_page n_trial n_book n_kept n_isKept n_seenStation n_seenOther n_seenWide n_seenWas n_sines n_at n_column n_gram n_right n_work v_thrown v_textSize v_place v_stations v_readStations v_doings v_seen v_seed v_wide w5 w6 r_page)) (va_runV (As := [.int x2]) (rest := []) ⟨hx, hb, hml, hown, hts⟩ (m_X6_told l dC dI k H.size n_t n_text n_readPage n_page n_trial n_book n_kept n_isKept n_seenStation n_seenOther n_seenWide n_seenWas n_sines n_at n_column n_gram n_right n_work v_thrown v_textSize v_place v_stations v_readStations v_doings v_seen v_seed v_wide w5 w6 x2 e9) (cwV 1 hts gX6_share_X6_told rfl rfl rfl (by decide +kernel) ⟨Nat.le_of_ble_eq_true rfl, Nat.le_of_ble_eq_true rfl⟩) (g_preV hG hP hD hS hA [0] rfl (by decide) (ci := 6) (q0 := 0) rfl rfl) rfl rfl hl.1 rfl (lv_room (Nat.le_of_ble_eq_true rfl)) dX6_share_156 ⟨Nat.le_of_ble_eq_true rfl, Nat.le_of_ble_eq_true rfl⟩) hP hD hS hA [0] [1] [1, 0] rfl rfl (by decide) (by decide) rfl (by decide) (fun H locs hP hD hS => ?_)
        refine g_l2i hx hb dX6_share_159 ?_
        exact RET _ _ _ _ _ _ _ _ dX6_share_160 hm hP hD hS
      · replace hm := ifn c2 hm
        refine lv_iload hx hb dX6_share_52 (lv_at hl 6 rfl) ?_
        refine lv_iload_n hx hb dX6_share_54 rfl (lv_at hl 3 rfl) ?_
        refine lv_iconst (v := (-1 : Int32)) hx hb dX6_share_55 (by decide) ?_
        refine lv_ixor hx hb dX6_share_56 ?_
        refine lv_iand hx hb dX6_share_57 ?_
        refine lv_if_ne (tgt := 136) hx hb dX6_share_58 (by decide) (fun c10 => ?_) (fun c10 => ?_)
        · replace hm := ifn c10 hm
          exact J_136 _ _ _ _ _ _ _ _ _ _ _ _ (lv_sub hl [0, 1, 2, 3, 4, 5, 6] rfl) hP hD hS hm
        · replace hm := ifp c10 hm
          refine lv_iload hx hb dX6_share_61 (lv_at hl 6 rfl) ?_
          refine lv_iload_n hx hb dX6_share_63 rfl (lv_at hl 1 rfl) ?_
          obtain ⟨r11, e12, hm⟩ := bnd1_some hm
          refine g_calli (w2 := (wd_6d76fb k n_t n_text n_readPage n_page n_trial n_book n_kept n_isKept n_seenStation n_seenOther n_seenWide n_seenWas n_sines n_at n_column n_gram n_right n_work v_thrown v_textSize v_place v_stations v_readStations v_doings v_seen v_seed v_wide v_up v_low r_page)) (va_runS (As := [.int x7, .int x1]) (rest := []) ⟨hx, hb, hml, hown, hts⟩ (m_X6_has l dC dI k H.size  x7 x1 e12) (va_cwS 2 hts gX6_share_X6_has rfl rfl rfl (by decide +kernel) ⟨Nat.le_of_ble_eq_true rfl, Nat.le_of_ble_eq_true rfl⟩) (g_preS hG hP hD hS hA [] rfl (by decide)) rfl rfl hl.1 rfl (lv_room (Nat.le_of_ble_eq_true rfl)) dX6_share_64 ⟨Nat.le_of_ble_eq_true rfl, Nat.le_of_ble_eq_true rfl⟩) hP hD hS hA [] [0, 1] [0, 1] rfl rfl (by decide) (by decide) rfl (by decide) (fun H locs hP hD hS => ?_)
          refine lv_if_ne (tgt := 136) hx hb dX6_share_67 (by decide) (fun c13 => ?_) (fun c13 => ?_)
          · replace hm := ifn c13 hm
            exact J_136 _ _ _ _ _ _ _ _ _ _ _ _ (lv_sub hl [0, 1, 2, 3, 4, 5, 6] rfl) hP hD hS hm
          · replace hm := ifp c13 hm
            refine lv_aload_n hx hb dX6_share_70 rfl (lv_at hl 0 rfl) ?_
            refine lv_aload_n hx hb dX6_share_71 rfl (lv_at hl 0 rfl) ?_
            refine va_get (D := (dC, dI)) (ci := 6) (v := .ref n_page) (C := RX6) (T := TX6) (N := 28) hx hb hts hinX6 hown hG.1 hP 0 rfl rfl 7 (by decide) k0 (fun _ h9 => h9) rfl dX6_share_72 ?_
            refine lv_iload hx hb dX6_share_75 (lv_at hl 6 rfl) ?_
            refine lv_iconst (v := (1 : Int32)) hx hb dX6_share_77 (by decide) ?_
            refine lv_iload_n hx hb dX6_share_78 rfl (lv_at hl 1 rfl) ?_
            refine g_ishl hx hb dX6_share_79 ?_
            refine lv_ior hx hb dX6_share_80 ?_
            obtain ⟨r14, e15, hm⟩ := bnd1_some hm
            refine g_calli (w2 := (wd_6d76fb k n_t n_text n_readPage n_page n_trial n_book n_kept n_isKept n_seenStation n_seenOther n_seenWide n_seenWas n_sines n_at n_column n_gram n_right n_work v_thrown v_textSize v_place v_stations v_readStations v_doings v_seen v_seed v_wide v_up v_low r_page)) (va_runV (As := [.ref n_page, .int (x7 ||| (shlI (1 : Int32) x1))]) (rest := []) ⟨hx, hb, hml, hown, hts⟩ (m_X6_tiedBy l dC dI k F H.size n_t n_page n_text n_readPage n_page n_trial n_book n_kept n_isKept n_seenStation n_seenOther n_seenWide n_seenWas n_sines n_at n_column n_gram n_right n_work v_thrown v_textSize v_place v_stations v_readStations v_doings v_seen v_seed v_wide v_up v_low r_page (x7 ||| (shlI (1 : Int32) x1)) e15) (cwV 2 hts gX6_share_X6_tiedBy rfl rfl rfl (by decide +kernel) ⟨Nat.le_of_ble_eq_true rfl, Nat.le_of_ble_eq_true rfl⟩) (g_preV hG hP hD hS hA [0, 1] rfl (by decide) (ci := 6) (q0 := 0) rfl rfl) rfl rfl hl.1 rfl (lv_room (Nat.le_of_ble_eq_true rfl)) dX6_share_81 ⟨Nat.le_of_ble_eq_true rfl, Nat.le_of_ble_eq_true rfl⟩) hP hD hS hA [0, 1] [] [0, 1] rfl rfl (by decide) (by decide) rfl (by decide) (fun H locs hP hD hS => ?_)
            obtain ⟨r16, e17, hm⟩ := bnd1_some hm
            refine g_calli (w2 := (wd_6d76fb k n_t n_text n_readPage n_page n_trial n_book n_kept n_isKept n_seenStation n_seenOther n_seenWide n_seenWas n_sines n_at n_column n_gram n_right n_work v_thrown v_textSize v_place v_stations v_readStations v_doings v_seen v_seed v_wide v_up v_low r_page)) (va_runS (As := [.int r14]) (rest := []) ⟨hx, hb, hml, hown, hts⟩ (m_X6_ones l dC dI k F H.size  r14 e17) (va_cwS 1 hts gX6_share_X6_ones rfl rfl rfl (by decide +kernel) ⟨Nat.le_of_ble_eq_true rfl, Nat.le_of_ble_eq_true rfl⟩) (g_preS hG hP hD hS hA [] rfl (by decide)) rfl rfl hl.1 rfl (lv_room (Nat.le_of_ble_eq_true rfl)) dX6_share_84 ⟨Nat.le_of_ble_eq_true rfl, Nat.le_of_ble_eq_true rfl⟩) hP hD hS hA [] [0, 1] [0, 1] rfl rfl (by decide) (by decide) rfl (by decide) (fun H locs hP hD hS => ?_)
            refine lv_aload_n hx hb dX6_share_87 rfl (lv_at hl 0 rfl) ?_
            refine lv_aload_n hx hb dX6_share_88 rfl (lv_at hl 0 rfl) ?_
            refine va_get (D := (dC, dI)) (ci := 6) (v := .ref n_page) (C := RX6) (T := TX6) (N := 28) hx hb hts hinX6 hown hG.1 hP 0 rfl rfl 7 (by decide) k0 (fun _ h9 => h9) rfl dX6_share_89 ?_
            refine lv_iload hx hb dX6_share_92 (lv_at hl 6 rfl) ?_
            obtain ⟨r18, e19, hm⟩ := bnd1_some hm
            refine g_calli (w2 := (wd_6d76fb k n_t n_text n_readPage n_page n_trial n_book n_kept n_isKept n_seenStation n_seenOther n_seenWide n_seenWas n_sines n_at n_column n_gram n_right n_work v_thrown v_textSize v_place v_stations v_readStations v_doings v_seen v_seed v_wide v_up v_low r_page)) (va_runV (As := [.ref n_page, .int x7]) (rest := [.int r16]) ⟨hx, hb, hml, hown, hts⟩ (m_X6_tiedBy l dC dI k F H.size n_t n_page n_text n_readPage n_page n_trial n_book n_kept n_isKept n_seenStation n_seenOther n_seenWide n_seenWas n_sines n_at n_column n_gram n_right n_work v_thrown v_textSize v_place v_stations v_readStations v_doings v_seen v_seed v_wide v_up v_low r_page x7 e19) (cwV 2 hts gX6_share_X6_tiedBy rfl rfl rfl (by decide +kernel) ⟨Nat.le_of_ble_eq_true rfl, Nat.le_of_ble_eq_true rfl⟩) (g_preV hG hP hD hS hA [0, 1] rfl (by decide) (ci := 6) (q0 := 0) rfl rfl) rfl rfl hl.1 rfl (lv_room (Nat.le_of_ble_eq_true rfl)) dX6_share_94 ⟨Nat.le_of_ble_eq_true rfl, Nat.le_of_ble_eq_true rfl⟩) hP hD hS hA [0, 1] [] [0, 1] rfl rfl (by decide) (by decide) rfl (by decide) (fun H locs hP hD hS => ?_)
            obtain ⟨r20, e21, hm⟩ := bnd1_some hm
            refine g_calli (w2 := (wd_6d76fb k n_t n_text n_readPage n_page n_trial n_book n_kept n_isKept n_seenStation n_seenOther n_seenWide n_seenWas n_sines n_at n_column n_gram n_right n_work v_thrown v_textSize v_place v_stations v_readStations v_doings v_seen v_seed v_wide v_up v_low r_page)) (va_runS (As := [.int r18]) (rest := [.int r16]) ⟨hx, hb, hml, hown, hts⟩ (m_X6_ones l dC dI k F H.size  r18 e21) (va_cwS 1 hts gX6_share_X6_ones rfl rfl rfl (by decide +kernel) ⟨Nat.le_of_ble_eq_true rfl, Nat.le_of_ble_eq_true rfl⟩) (g_preS hG hP hD hS hA [] rfl (by decide)) rfl rfl hl.1 rfl (lv_room (Nat.le_of_ble_eq_true rfl)) dX6_share_97 ⟨Nat.le_of_ble_eq_true rfl, Nat.le_of_ble_eq_true rfl⟩) hP hD hS hA [] [0, 1] [0, 1] rfl rfl (by decide) (by decide) rfl (by decide) (fun H locs hP hD hS => ?_)
            refine lv_isub hx hb dX6_share_100 ?_
            refine lv_topi (fun t22 et22 => ?_)
            replace hm := (nmd_eq et22).trans hm
            refine lv_istore (lv' := [(8, .int t22), (0, .ref n_t), (1, .int x1), (2, .int x2), (3, .int x3), (4, .int x4), (5, .long x5), (7, .int x7)]) hx hb dX6_share_101 hl (by decide) rfl (fun ls hl => ?_)
            refine lv_lload hx hb dX6_share_103 (lv_at hl 6 rfl) ?_
            refine lv_iload hx hb dX6_share_105 (lv_at hl 7 rfl) ?_
            obtain ⟨r23, e24, hm⟩ := bnd1_some hm
            refine g_calli (w2 := (wd_6d76fb k n_t n_text n_readPage n_page n_trial n_book n_kept n_isKept n_seenStation n_seenOther n_seenWide n_seenWas n_sines n_at n_column n_gram n_right n_work v_thrown v_textSize v_place v_stations v_readStations v_doings v_seen v_seed v_wide v_up v_low r_page)) (va_runS (As := [.int x7]) (rest := [.long x5]) ⟨hx, hb, hml, hown, hts⟩ (m_X6_ones l dC dI k F H.size  x7 e24) (va_cwS 1 hts gX6_share_X6_ones rfl rfl rfl (by decide +kernel) ⟨Nat.le_of_ble_eq_true rfl, Nat.le_of_ble_eq_true rfl⟩) (g_preS hG hP hD hS hA [] rfl (by decide)) rfl rfl hl.1 rfl (lv_room (Nat.le_of_ble_eq_true rfl)) dX6_share_107 ⟨Nat.le_of_ble_eq_true rfl, Nat.le_of_ble_eq_true rfl⟩) hP hD hS hA [] [0, 1] [0, 1] rfl rfl (by decide) (by decide) rfl (by decide) (fun H locs hP hD hS => ?_)
            obtain ⟨r25, e26, hm⟩ := bnd1_some hm
            refine g_calli (w2 := (wd_6d76fb k n_t n_text n_readPage n_page n_trial n_book n_kept n_isKept n_seenStation n_seenOther n_seenWide n_seenWas n_sines n_at n_column n_gram n_right n_work v_thrown v_textSize v_place v_stations v_readStations v_doings v_seen v_seed v_wide v_up v_low r_page)) (va_runS (As := [.int r23]) (rest := [.long x5]) ⟨hx, hb, hml, hown, hts⟩ (m_X6_factorial l dC dI k F H.size  r23 e26) (va_cwS 1 hts gX6_share_X6_factorial rfl rfl rfl (by decide +kernel) ⟨Nat.le_of_ble_eq_true rfl, Nat.le_of_ble_eq_true rfl⟩) (g_preS hG hP hD hS hA [] rfl (by decide)) rfl rfl hl.1 rfl (lv_room (Nat.le_of_ble_eq_true rfl)) dX6_share_110 ⟨Nat.le_of_ble_eq_true rfl, Nat.le_of_ble_eq_true rfl⟩) hP hD hS hA [] [0, 1] [0, 1] rfl rfl (by decide) (by decide) rfl (by decide) (fun H locs hP hD hS => ?_)
            refine g_i2l hx hb dX6_share_113 ?_
            refine lv_iload hx hb dX6_share_114 (lv_at hl 5 rfl) ?_
            refine lv_iconst (v := (1 : Int32)) hx hb dX6_share_116 (by decide) ?_
            refine lv_isub hx hb dX6_share_117 ?_
            refine lv_iload hx hb dX6_share_118 (lv_at hl 7 rfl) ?_
            obtain ⟨r27, e28, hm⟩ := bnd1_some hm
            refine g_calli (w2 := (wd_6d76fb k n_t n_text n_readPage n_page n_trial n_book n_kept n_isKept n_seenStation n_seenOther n_seenWide n_seenWas n_sines n_at n_column n_gram n_right n_work v_thrown v_textSize v_place v_stations v_readStations v_doings v_seen v_seed v_wide v_up v_low r_page)) (va_runS (As := [.int x7]) (rest := [.int (x4 - (1 : Int32)), .long (Int32.toInt64 r25), .long x5]) ⟨hx, hb, hml, hown, hts⟩ (m_X6_ones l dC dI k F H.size  x7 e28) (va_cwS 1 hts gX6_share_X6_ones rfl rfl rfl (by decide +kernel) ⟨Nat.le_of_ble_eq_true rfl, Nat.le_of_ble_eq_true rfl⟩) (g_preS hG hP hD hS hA [] rfl (by decide)) rfl rfl hl.1 rfl (lv_room (Nat.le_of_ble_eq_true rfl)) dX6_share_120 ⟨Nat.le_of_ble_eq_true rfl, Nat.le_of_ble_eq_true rfl⟩) hP hD hS hA [] [0, 1] [0, 1] rfl rfl (by decide) (by decide) rfl (by decide) (fun H locs hP hD hS => ?_)
            refine lv_isub hx hb dX6_share_123 ?_
            obtain ⟨r29, e30, hm⟩ := bnd1_some hm
            refine g_calli (w2 := (wd_6d76fb k n_t n_text n_readPage n_page n_trial n_book n_kept n_isKept n_seenStation n_seenOther n_seenWide n_seenWas n_sines n_at n_column n_gram n_right n_work v_thrown v_textSize v_place v_stations v_readStations v_doings v_seen v_seed v_wide v_up v_low r_page)) (va_runS (As := [.int ((x4 - (1 : Int32)) - r27)]) (rest := [.long (Int32.toInt64 r25), .long x5]) ⟨hx, hb, hml, hown, hts⟩ (m_X6_factorial l dC dI k F H.size  ((x4 - (1 : Int32)) - r27) e30) (va_cwS 1 hts gX6_share_X6_factorial rfl rfl rfl (by decide +kernel) ⟨Nat.le_of_ble_eq_true rfl, Nat.le_of_ble_eq_true rfl⟩) (g_preS hG hP hD hS hA [] rfl (by decide)) rfl rfl hl.1 rfl (lv_room (Nat.le_of_ble_eq_true rfl)) dX6_share_124 ⟨Nat.le_of_ble_eq_true rfl, Nat.le_of_ble_eq_true rfl⟩) hP hD hS hA [] [0, 1] [0, 1] rfl rfl (by decide) (by decide) rfl (by decide) (fun H locs hP hD hS => ?_)
            refine g_i2l hx hb dX6_share_127 ?_
            refine lv_lmul hx hb dX6_share_128 ?_
            refine lv_iload hx hb dX6_share_129 (lv_at hl 0 rfl) ?_
            refine g_i2l hx hb dX6_share_131 ?_
            refine lv_lmul hx hb dX6_share_132 ?_
            refine lv_ladd hx hb dX6_share_133 ?_
            refine lv_topl (fun t31 et31 => ?_)
            replace hm := (nmd_eq et31).trans hm
            refine lv_lstore (lv' := [(5, .long t31), (8, .int t22), (0, .ref n_t), (1, .int x1), (2, .int x2), (3, .int x3), (4, .int x4), (7, .int x7)]) hx hb dX6_share_134 hl (by decide) rfl (fun ls hl => ?_)
            exact J_136 _ _ _ _ _ _ _ _ _ _ _ _ (lv_sub hl [2, 3, 4, 5, 6, 0, 7] rfl) hP hD hS hm
  unfold f_X6_share at hm
  refine lv_aload_n hx hb dX6_share_0 rfl (lv_at hl 0 rfl) ?_
  refine lv_iconst (v := (0 : Int32)) hx hb dX6_share_1 (by decide) ?_
  refine va_put (D := (dC, dI)) (ci := 6) (v := .int (0 : Int32)) (ty := .int) (C := RX6) (T := TX6) (N := 28) hx hb hts hinX6 tyX6 tyX6_ok nmX6 hown hG.1 hP hD hS 0 rfl rfl 0 (by decide) k1 (fun _ h9 => h9) rfl (by decide +kernel) rfl rfl (Nat.le_of_ble_eq_true rfl) dX6_share_2 (fun H locs hP hD hS => ?_)
  replace hP : va_P (dC, dI) vwCl (wd_6d76fb k n_t n_text n_readPage n_page n_trial n_book n_kept n_isKept n_seenStation n_seenOther n_seenWide n_seenWas n_sines n_at n_column n_gram n_right n_work (0 : Int32) v_textSize v_place v_stations v_readStations v_doings v_seen v_seed v_wide v_up v_low r_page) H := hP
  replace hD : va_D A (wd_6d76fb k n_t n_text n_readPage n_page n_trial n_book n_kept n_isKept n_seenStation n_seenOther n_seenWide n_seenWas n_sines n_at n_column n_gram n_right n_work (0 : Int32) v_textSize v_place v_stations v_readStations v_doings v_seen v_seed v_wide v_up v_low r_page) := hD
  refine lv_aload_n hx hb dX6_share_5 rfl (lv_at hl 0 rfl) ?_
  refine lv_iload_n hx hb dX6_share_6 rfl (lv_at hl 1 rfl) ?_
  obtain ⟨r32, e33, hm⟩ := bnd1_some hm
  refine g_calli (w2 := (wd_6d76fb k n_t n_text n_readPage n_page n_trial n_book n_kept n_isKept n_seenStation n_seenOther n_seenWide n_seenWas n_sines n_at n_column n_gram n_right n_work (0 : Int32) v_textSize v_place v_stations v_readStations v_doings v_seen v_seed v_wide v_up v_low r_page)) (va_runV (As := [.int x1]) (rest := []) ⟨hx, hb, hml, hown, hts⟩ (m_X6_noLeg l dC dI k H.size n_t n_text n_readPage n_page n_trial n_book n_kept n_isKept n_seenStation n_seenOther n_seenWide n_seenWas n_sines n_at n_column n_gram n_right n_work (0 : Int32) v_textSize v_place v_stations v_readStations v_doings v_seen v_seed v_wide v_up v_low r_page x1 e33) (cwV 1 hts gX6_share_X6_noLeg rfl rfl rfl (by decide +kernel) ⟨Nat.le_of_ble_eq_true rfl, Nat.le_of_ble_eq_true rfl⟩) (g_preV hG hP hD hS hA [0, 1] rfl (by decide) (ci := 6) (q0 := 0) rfl rfl) rfl rfl hl.1 rfl (lv_room (Nat.le_of_ble_eq_true rfl)) dX6_share_7 ⟨Nat.le_of_ble_eq_true rfl, Nat.le_of_ble_eq_true rfl⟩) hP hD hS hA [0, 1] [] [0, 1] rfl rfl (by decide) (by decide) rfl (by decide) (fun H locs hP hD hS => ?_)
  refine lv_if_eq (tgt := 15) hx hb dX6_share_10 (by decide) (fun c34 => ?_) (fun c34 => ?_)
  · replace hm := ifp c34 hm
    refine lv_aload_n hx hb dX6_share_15 rfl (lv_at hl 0 rfl) ?_
    refine va_get (D := (dC, dI)) (ci := 6) (v := .ref n_page) (C := RX6) (T := TX6) (N := 28) hx hb hts hinX6 hown hG.1 hP 0 rfl rfl 7 (by decide) k0 (fun _ h9 => h9) rfl dX6_share_16 ?_
    obtain ⟨r35, e36, hm⟩ := bnd1_some hm
    refine g_calli (w2 := (wd_6d76fb k n_t n_text n_readPage n_page n_trial n_book n_kept n_isKept n_seenStation n_seenOther n_seenWide n_seenWas n_sines n_at n_column n_gram n_right n_work (0 : Int32) v_textSize v_place v_stations v_readStations v_doings v_seen v_seed v_wide v_up v_low r_page)) (va_runS (As := [.ref n_page]) (rest := []) ⟨hx, hb, hml, hown, hts⟩ (m_X6_openOnes l dC dI k H.size n_page r_page  e36) (va_cwS 1 hts gX6_share_X6_openOnes rfl rfl rfl (by decide +kernel) ⟨Nat.le_of_ble_eq_true rfl, Nat.le_of_ble_eq_true rfl⟩) (g_preS hG hP hD hS hA [1] rfl (by decide)) rfl rfl hl.1 rfl (lv_room (Nat.le_of_ble_eq_true rfl)) dX6_share_19 ⟨Nat.le_of_ble_eq_true rfl, Nat.le_of_ble_eq_true rfl⟩) hP hD hS hA [1] [0] [0, 1] rfl rfl (by decide) (by decide) rfl (by decide) (fun H locs hP hD hS => ?_)
    refine lv_istore_n (lv' := [(3, .int r35), (0, .ref n_t), (1, .int x1), (2, .int x2)]) hx hb dX6_share_22 rfl hl (by decide) rfl (fun ls hl => ?_)
    refine lv_iload_n hx hb dX6_share_23 rfl (lv_at hl 0 rfl) ?_
    refine lv_iload_n hx hb dX6_share_24 rfl (lv_at hl 2 rfl) ?_
    obtain ⟨r37, e38, hm⟩ := bnd1_some hm
    refine g_calli (w2 := (wd_6d76fb k n_t n_text n_readPage n_page n_trial n_book n_kept n_isKept n_seenStation n_seenOther n_seenWide n_seenWas n_sines n_at n_column n_gram n_right n_work (0 : Int32) v_textSize v_place v_stations v_readStations v_doings v_seen v_seed v_wide v_up v_low r_page)) (va_runS (As := [.int r35, .int x1]) (rest := []) ⟨hx, hb, hml, hown, hts⟩ (m_X6_has l dC dI k H.size  r35 x1 e38) (va_cwS 2 hts gX6_share_X6_has rfl rfl rfl (by decide +kernel) ⟨Nat.le_of_ble_eq_true rfl, Nat.le_of_ble_eq_true rfl⟩) (g_preS hG hP hD hS hA [] rfl (by decide)) rfl rfl hl.1 rfl (lv_room (Nat.le_of_ble_eq_true rfl)) dX6_share_25 ⟨Nat.le_of_ble_eq_true rfl, Nat.le_of_ble_eq_true rfl⟩) hP hD hS hA [] [0, 1] [0, 1] rfl rfl (by decide) (by decide) rfl (by decide) (fun H locs hP hD hS => ?_)
    refine lv_if_ne (tgt := 34) hx hb dX6_share_28 (by decide) (fun c39 => ?_) (fun c39 => ?_)
    · replace hm := ifn c39 hm
      refine lv_iload_n hx hb dX6_share_34 rfl (lv_at hl 0 rfl) ?_
      obtain ⟨r40, e41, hm⟩ := bnd1_some hm
      refine g_calli (w2 := (wd_6d76fb k n_t n_text n_readPage n_page n_trial n_book n_kept n_isKept n_seenStation n_seenOther n_seenWide n_seenWas n_sines n_at n_column n_gram n_right n_work (0 : Int32) v_textSize v_place v_stations v_readStations v_doings v_seen v_seed v_wide v_up v_low r_page)) (va_runS (As := [.int r35]) (rest := []) ⟨hx, hb, hml, hown, hts⟩ (m_X6_ones l dC dI k F H.size  r35 e41) (va_cwS 1 hts gX6_share_X6_ones rfl rfl rfl (by decide +kernel) ⟨Nat.le_of_ble_eq_true rfl, Nat.le_of_ble_eq_true rfl⟩) (g_preS hG hP hD hS hA [] rfl (by decide)) rfl rfl hl.1 rfl (lv_room (Nat.le_of_ble_eq_true rfl)) dX6_share_35 ⟨Nat.le_of_ble_eq_true rfl, Nat.le_of_ble_eq_true rfl⟩) hP hD hS hA [] [0, 1] [0, 1] rfl rfl (by decide) (by decide) rfl (by decide) (fun H locs hP hD hS => ?_)
      refine lv_istore (lv' := [(4, .int r40), (3, .int r35), (0, .ref n_t), (1, .int x1), (2, .int x2)]) hx hb dX6_share_38 hl (by decide) rfl (fun ls hl => ?_)
      refine lv_lconst (v := (0 : Int64)) hx hb dX6_share_40 (by decide) ?_
      refine lv_lstore (lv' := [(5, .long (0 : Int64)), (4, .int r40), (3, .int r35), (0, .ref n_t), (1, .int x1), (2, .int x2)]) hx hb dX6_share_41 hl (by decide) rfl (fun ls hl => ?_)
      refine lv_iconst (v := (0 : Int32)) hx hb dX6_share_43 (by decide) ?_
      refine lv_istore (lv' := [(7, .int (0 : Int32)), (5, .long (0 : Int64)), (4, .int r40), (3, .int r35), (0, .ref n_t), (1, .int x1), (2, .int x2)]) hx hb dX6_share_44 hl (by decide) rfl (fun ls hl => ?_)
      exact L_46 F _ _ _ _ _ _ _ _ _ _ _ _ (lv_sub hl [4, 5, 6, 3, 2, 1, 0] rfl) hP hD hS hm
    · replace hm := ifp c39 hm
      refine lv_bipush (v := (-3 : Int32)) hx hb dX6_share_31 (by decide) ?_
      exact RET _ _ _ _ _ _ _ _ dX6_share_33 hm hP hD hS
  · replace hm := ifn c34 hm
    refine lv_iconst (v := (-1 : Int32)) hx hb dX6_share_13 (by decide) ?_
    exact RET _ _ _ _ _ _ _ _ dX6_share_14 hm hP hD hS
set_option maxRecDepth 100000 in
theorem m_X6_share (l : Launch) (dC : Nat → ClassId) (dI : Nat → Nat → Nat) (k : Nat → ClassId) (F : Nat) (sz : Nat) (n_t n_text n_readPage n_page n_trial n_book n_kept n_isKept n_seenStation n_seenOther n_seenWide n_seenWas n_sines n_at n_column n_gram n_right n_work : Nat) (v_thrown : Int32) (v_textSize : Int32) (v_place : Int32) (v_stations : Int32) (v_readStations : Int32) (v_doings : Int32) (v_seen : Int32) (v_seed : Int64) (v_wide : Int32) (v_up : Int64) (v_low : Int64) (r_page : Nat → Int32) (x1 : Int32) (x2 : Int32) {o_r : Int32} {o_v_thrown : (Int32)} {o_v_up : (Int64)} {o_v_low : (Int64)} (hm : f_X6_share F x1 x2 v_thrown v_up v_low r_page = some (o_r, o_v_thrown, o_v_up, o_v_low)) : Met l yX6_share wsX6_share rm_X6_share (gPre dC dI k [.ref n_t, .int x1, .int x2] sz (wd_6d76fb k n_t n_text n_readPage n_page n_trial n_book n_kept n_isKept n_seenStation n_seenOther n_seenWide n_seenWas n_sines n_at n_column n_gram n_right n_work v_thrown v_textSize v_place v_stations v_readStations v_doings v_seen v_seed v_wide v_up v_low r_page)) (gQI dC dI (va_A (wd_6d76fb k n_t n_text n_readPage n_page n_trial n_book n_kept n_isKept n_seenStation n_seenOther n_seenWide n_seenWas n_sines n_at n_column n_gram n_right n_work v_thrown v_textSize v_place v_stations v_readStations v_doings v_seen v_seed v_wide v_up v_low r_page) sz) o_r (wd_6d76fb k n_t n_text n_readPage n_page n_trial n_book n_kept n_isKept n_seenStation n_seenOther n_seenWide n_seenWas n_sines n_at n_column n_gram n_right n_work o_v_thrown v_textSize v_place v_stations v_readStations v_doings v_seen v_seed v_wide o_v_up o_v_low r_page)) 0 0 (va_A (wd_6d76fb k n_t n_text n_readPage n_page n_trial n_book n_kept n_isKept n_seenStation n_seenOther n_seenWide n_seenWas n_sines n_at n_column n_gram n_right n_work v_thrown v_textSize v_place v_stations v_readStations v_doings v_seen v_seed v_wide v_up v_low r_page) sz) := by
  refine g_entry (cc := cX6_share) (maxL := 9) (ret := (some .int)) (lv := [(0, .ref n_t), (1, .int x1), (2, .int x2)]) (by decide +kernel) rfl (Nat.le_of_ble_eq_true rfl) rfl (fun p e s m below meth c ls hx hb hr hml hts hown hlk hnm hsz hG hA hP hD hS hl => ?_)
  exact k_X6_share hx hb hml hts hown hG hA F n_t n_text n_readPage n_page n_trial n_book n_kept n_isKept n_seenStation n_seenOther n_seenWide n_seenWas n_sines n_at n_column n_gram n_right n_work v_thrown v_textSize v_place v_stations v_readStations v_doings v_seen v_seed v_wide v_up v_low r_page x1 x2 o_r o_v_thrown o_v_up o_v_low (fun pc H locs ls v q_v_thrown q_v_up q_v_low hd ho hP hD hS => by cases ho; exact g_ireti hx hb hr hlk hP hD hS hd) s.heap [] ls hl hP hD hS hm
end
section
set_option maxHeartbeats 4000000 in
set_option maxRecDepth 100000 in
theorem k_X6_falls {p : Program} {l : Launch} {e : Env} {s : State} {m : MethodId} {args : Array Value} {below : List Frame} {meth : Method} {c : Code} {A : Nat → Prop} {Q : State → Prop} {dC : Nat → ClassId} {dI : Nat → Nat → Nat} {k : Nat → ClassId} (hx : p.tables.exec = Jvm.exec) (hb : c.code = cX6_falls) (hml : c.maxLocals = 10) (hts : ∀ w ∈ wsX6_falls, w.before args s = true) (hown : s.vm.findClass RX6 = some m.cls) (hG : gK dC dI k A s) (hA : ∀ q : Nat, s.heap.size ≤ q → A q) (F : Nat) (n_t n_text n_readPage n_page n_trial n_book n_kept n_isKept n_seenStation n_seenOther n_seenWide n_seenWas n_sines n_at n_column n_gram n_right n_work : Nat) (v_thrown : Int32) (v_textSize : Int32) (v_place : Int32) (v_stations : Int32) (v_readStations : Int32) (v_doings : Int32) (v_seen : Int32) (v_seed : Int64) (v_wide : Int32) (v_up : Int64) (v_low : Int64) (r_page : Nat → Int32) (x1 : Int32) (x2 : Int32) (x3 : Int32) (x4 : Int32) (o_r : Int32) (o_v_thrown : (Int32)) (o_v_up : (Int64)) (o_v_low : (Int64)) (RET : ∀ (pc : Nat) (H : Heap) (locs : List Loc) (ls : Array Slot) (v : Int32) (q_v_thrown : Int32) (q_v_up : Int64) (q_v_low : Int64), decode cX6_falls pc = .ok (.ireturn, 1) → some (v, q_v_thrown, q_v_up, q_v_low) = some (o_r, o_v_thrown, o_v_up, o_v_low) → va_P (dC, dI) vwCl (wd_6d76fb k n_t n_text n_readPage n_page n_trial n_book n_kept n_isKept n_seenStation n_seenOther n_seenWide n_seenWas n_sines n_at n_column n_gram n_right n_work q_v_thrown v_textSize v_place v_stations v_readStations v_doings v_seen v_seed v_wide q_v_up q_v_low r_page) H → va_D A (wd_6d76fb k n_t n_text n_readPage n_page n_trial n_book n_kept n_isKept n_seenStation n_seenOther n_seenWide n_seenWas n_sines n_at n_column n_gram n_right n_work q_v_thrown v_textSize v_place v_stations v_readStations v_doings v_seen v_seed v_wide q_v_up q_v_low r_page) → va_S A s.heap H locs → W p l e rm_X6_falls s m args below meth c H locs 0 0 Q (F0 m pc ls [.int v])) (H : Heap) (locs : List Loc) (ls : Array Slot) (hl : lv_has ls 10 [(0, .ref n_t), (1, .int x1), (2, .int x2), (3, .int x3), (4, .int x4)]) (hP : va_P (dC, dI) vwCl (wd_6d76fb k n_t n_text n_readPage n_page n_trial n_book n_kept n_isKept n_seenStation n_seenOther n_seenWide n_seenWas n_sines n_at n_column n_gram n_right n_work v_thrown v_textSize v_place v_stations v_readStations v_doings v_seen v_seed v_wide v_up v_low r_page) H) (hD : va_D A (wd_6d76fb k n_t n_text n_readPage n_page n_trial n_book n_kept n_isKept n_seenStation n_seenOther n_seenWide n_seenWas n_sines n_at n_column n_gram n_right n_work v_thrown v_textSize v_place v_stations v_readStations v_doings v_seen v_seed v_wide v_up v_low r_page)) (hS : va_S A s.heap H locs) (hm : f_X6_falls F x1 x2 x3 x4 v_thrown v_stations v_up v_low r_page = some (o_r, o_v_thrown, o_v_up, o_v_low)) : W p l e rm_X6_falls s m args below meth c H locs 0 0 Q (F0 m 0 ls []) := by
  have hinX6 : ∀ w ∈ u_ws RX6 TX6 28, w ∈ wsX6_falls := by decide +kernel
  have k0 := hts (.fieldLink RX6 20 "CaveLegsModel" "page" "[I") (by decide +kernel)
  have k1 := hts (.fieldLink RX6 67 "CaveLegsModel" "thrown" "I") (by decide +kernel)
  have k2 := hts (.constantLong RX6 117 (9)) (by decide +kernel)
  have k3 := hts (.constantLong RX6 258 (10)) (by decide +kernel)
  have L_64 : ∀ (n64 : Nat) (v_thrown : Int32) (v_up : Int64) (v_low : Int64) (x1 : Int32) (x2 : Int32) (x3 : Int32) (x4 : Int32) (x5 : Int32) (x6 : Int32) (x7 : Int64) (x9 : Int32) (H : Heap) (locs : List Loc) (ls : Array Slot), lv_has ls 10 [(0, .ref n_t), (1, .int x1), (2, .int x2), (3, .int x3), (4, .int x4), (5, .int x5), (6, .int x6), (7, .long x7), (9, .int x9)] → va_P (dC, dI) vwCl (wd_6d76fb k n_t n_text n_readPage n_page n_trial n_book n_kept n_isKept n_seenStation n_seenOther n_seenWide n_seenWas n_sines n_at n_column n_gram n_right n_work v_thrown v_textSize v_place v_stations v_readStations v_doings v_seen v_seed v_wide v_up v_low r_page) H → va_D A (wd_6d76fb k n_t n_text n_readPage n_page n_trial n_book n_kept n_isKept n_seenStation n_seenOther n_seenWide n_seenWas n_sines n_at n_column n_gram n_right n_work v_thrown v_textSize v_place v_stations v_readStations v_doings v_seen v_seed v_wide v_up v_low r_page) → va_S A s.heap H locs → f_X6_falls_L64 F v_stations r_page n64 v_thrown v_up v_low x1 x2 x3 x4 x5 x6 x7 x9 = some (o_r, o_v_thrown, o_v_up, o_v_low) → W p l e rm_X6_falls s m args below meth c H locs 0 0 Q (F0 m 64 ls []) := by
    intro n64
    induction n64 with
    | zero =>
      intro v_thrown v_up v_low x1 x2 x3 x4 x5 x6 x7 x9 H locs ls hl hP hD hS hm
      exact non_some hm
    | succ n64 ih64 =>
      have J_130 : ∀ (v_thrown : Int32) (v_up : Int64) (v_low : Int64) (x1 : Int32) (x2 : Int32) (x3 : Int32) (x4 : Int32) (x5 : Int32) (x6 : Int32) (x7 : Int64) (x9 : Int32) (H : Heap) (locs : List Loc) (ls : Array Slot), lv_has ls 10 [(0, .ref n_t), (1, .int x1), (2, .int x2), (3, .int x3), (4, .int x4), (5, .int x5), (6, .int x6), (7, .long x7), (9, .int x9)] → va_P (dC, dI) vwCl (wd_6d76fb k n_t n_text n_readPage n_page n_trial n_book n_kept n_isKept n_seenStation n_seenOther n_seenWide n_seenWas n_sines n_at n_column n_gram n_right n_work v_thrown v_textSize v_place v_stations v_readStations v_doings v_seen v_seed v_wide v_up v_low r_page) H → va_D A (wd_6d76fb k n_t n_text n_readPage n_page n_trial n_book n_kept n_isKept n_seenStation n_seenOther n_seenWide n_seenWas n_sines n_at n_column n_gram n_right n_work v_thrown v_textSize v_place v_stations v_readStations v_doings v_seen v_seed v_wide v_up v_low r_page) → va_S A s.heap H locs → f_X6_falls_J130 F v_stations r_page (f_X6_falls_L64 F v_stations r_page n64) v_thrown v_up v_low x1 x2 x3 x4 x5 x6 x7 x9 = some (o_r, o_v_thrown, o_v_up, o_v_low) → W p l e rm_X6_falls s m args below meth c H locs 0 0 Q (F0 m 130 ls []) := by
        intro v_thrown v_up v_low x1 x2 x3 x4 x5 x6 x7 x9 H locs ls hl hP hD hS hm
        unfold f_X6_falls_J130 at hm
        obtain ⟨t1, et1⟩ : ∃ y : Int32, y = x9 + (1 : Int32) := ⟨_, rfl⟩
        replace hm := (nmd_eq et1).trans hm
        refine lv_iinc (v := t1) (lv' := [(9, .int t1), (0, .ref n_t), (1, .int x1), (2, .int x2), (3, .int x3), (4, .int x4), (5, .int x5), (6, .int x6), (7, .long x7)]) hx hb dX6_falls_130 hl (k := 8) rfl (by rw [et1]; rfl) (by decide) rfl (fun ls hl => ?_)
        refine lv_goto (tgt := 64) hx hb dX6_falls_133 (by decide) ?_
        exact ih64 _ _ _ _ _ _ _ _ _ _ _ _ _ _ (lv_sub hl [1, 2, 3, 4, 5, 6, 7, 8, 0] rfl) hP hD hS hm
      intro v_thrown v_up v_low x1 x2 x3 x4 x5 x6 x7 x9 H locs ls hl hP hD hS hm
      replace hm : f_X6_falls_B64 F v_stations r_page (f_X6_falls_L64 F v_stations r_page n64) v_thrown v_up v_low x1 x2 x3 x4 x5 x6 x7 x9 = some (o_r, o_v_thrown, o_v_up, o_v_low) := hm
      unfold f_X6_falls_B64 at hm
      refine lv_iload hx hb dX6_falls_64 (lv_at hl 8 rfl) ?_
      refine lv_iload hx hb dX6_falls_66 (lv_at hl 5 rfl) ?_
      refine lv_icmp_gt (tgt := 136) hx hb dX6_falls_68 (by decide) (fun c2 => ?_) (fun c2 => ?_)
      · replace hm := ifp c2 hm
        refine lv_aload_n hx hb dX6_falls_136 rfl (lv_at hl 0 rfl) ?_
        refine lv_lload hx hb dX6_falls_137 (lv_at hl 7 rfl) ?_
        refine lv_bipush (v := (10 : Int32)) hx hb dX6_falls_139 (by decide) ?_
        refine lv_iload hx hb dX6_falls_141 (lv_at hl 6 rfl) ?_
        obtain ⟨r3, e4, hm⟩ := bnd1_some hm
        refine g_calli (w2 := (wd_6d76fb k n_t n_text n_readPage n_page n_trial n_book n_kept n_isKept n_seenStation n_seenOther n_seenWide n_seenWas n_sines n_at n_column n_gram n_right n_work v_thrown v_textSize v_place v_stations v_readStations v_doings v_seen v_seed v_wide v_up v_low r_page)) (va_runS (As := [.int (10 : Int32), .int x6]) (rest := [.long x7, .ref n_t]) ⟨hx, hb, hml, hown, hts⟩ (m_X6_power l dC dI k F H.size  (10 : Int32) x6 e4) (va_cwS 2 hts gX6_falls_X6_power rfl rfl rfl (by decide +kernel) ⟨Nat.le_of_ble_eq_true rfl, Nat.le_of_ble_eq_true rfl⟩) (g_preS hG hP hD hS hA [] rfl (by decide)) rfl rfl hl.1 rfl (lv_room (Nat.le_of_ble_eq_true rfl)) dX6_falls_143 ⟨Nat.le_of_ble_eq_true rfl, Nat.le_of_ble_eq_true rfl⟩) hP hD hS hA [] [0, 1] [0, 1] rfl rfl (by decide) (by decide) rfl (by decide) (fun H locs hP hD hS => ?_)
        refine g_i2l hx hb dX6_falls_146 ?_
        obtain ⟨w5, w6, e7, hm⟩ := bnd2_some hm
        refine g_callv (w2 := (wd_6d76fb k n_t n_text n_readPage n_page n_trial n_book n_kept n_isKept n_seenStation n_seenOther n_seenWide n_seenWas n_sines n_at n_column n_gram n_right n_work v_thrown v_textSize v_place v_stations v_readStations v_doings v_seen v_seed v_wide w5 w6 r_page)) (va_runV (As := [.long x7, .long (Int32.toInt64 r3)]) (rest := []) ⟨hx, hb, hml, hown, hts⟩ (m_X6_layFraction l dC dI k F H.size n_t n_text n_readPage n_page n_trial n_book n_kept n_isKept n_seenStation n_seenOther n_seenWide n_seenWas n_sines n_at n_column n_gram n_right n_work v_thrown v_textSize v_place v_stations v_readStations v_doings v_seen v_seed v_wide v_up v_low x7 (Int32.toInt64 r3) e7) (cwV 2 hts gX6_falls_X6_layFraction rfl rfl rfl (by decide +kernel) ⟨Nat.le_of_ble_eq_true rfl, Nat.le_of_ble_eq_true rfl⟩) (g_preV hG hP hD hS hA [0] rfl (by decide) (ci := 6) (q0 := 0) rfl rfl) rfl rfl hl.1 rfl (lv_room (Nat.le_of_ble_eq_true rfl)) dX6_falls_147 ⟨Nat.le_of_ble_eq_true rfl, Nat.le_of_ble_eq_true rfl⟩) hP hD hS hA [0] [1] [1, 0] rfl rfl (by decide) (by decide) rfl (by decide) (fun H locs hP hD hS => ?_)
        refine lv_aload_n hx hb dX6_falls_150 rfl (lv_at hl 0 rfl) ?_
        refine lv_iload hx hb dX6_falls_151 (lv_at hl 4 rfl) ?_
        obtain ⟨r8, e9, hm⟩ := bnd1_some hm
        refine g_calll (w2 := (wd_6d76fb k n_t n_text n_readPage n_page n_trial n_book n_kept n_isKept n_seenStation n_seenOther n_seenWide n_seenWas n_sines n_at n_column n_gram n_right n_work v_thrown v_textSize v_place v_stations v_readStations v_doings v_seen v_seed v_wide w5 w6 r_page)) (va_runV (As := [.int x4]) (rest := []) ⟨hx, hb, hml, hown, hts⟩ (m_X6_told l dC dI k H.size n_t n_text n_readPage n_page n_trial n_book n_kept n_isKept n_seenStation n_seenOther n_seenWide n_seenWas n_sines n_at n_column n_gram n_right n_work v_thrown v_textSize v_place v_stations v_readStations v_doings v_seen v_seed v_wide w5 w6 x4 e9) (cwV 1 hts gX6_falls_X6_told rfl rfl rfl (by decide +kernel) ⟨Nat.le_of_ble_eq_true rfl, Nat.le_of_ble_eq_true rfl⟩) (g_preV hG hP hD hS hA [0] rfl (by decide) (ci := 6) (q0 := 0) rfl rfl) rfl rfl hl.1 rfl (lv_room (Nat.le_of_ble_eq_true rfl)) dX6_falls_153 ⟨Nat.le_of_ble_eq_true rfl, Nat.le_of_ble_eq_true rfl⟩) hP hD hS hA [0] [1] [1, 0] rfl rfl (by decide) (by decide) rfl (by decide) (fun H locs hP hD hS => ?_)
        refine g_l2i hx hb dX6_falls_156 ?_
        exact RET _ _ _ _ _ _ _ _ dX6_falls_157 hm hP hD hS
      · replace hm := ifn c2 hm
        refine lv_iload hx hb dX6_falls_71 (lv_at hl 8 rfl) ?_
        refine lv_iload hx hb dX6_falls_73 (lv_at hl 5 rfl) ?_
        refine lv_iconst (v := (-1 : Int32)) hx hb dX6_falls_75 (by decide) ?_
        refine lv_ixor hx hb dX6_falls_76 ?_
        refine lv_iand hx hb dX6_falls_77 ?_
        refine lv_if_ne (tgt := 130) hx hb dX6_falls_78 (by decide) (fun c10 => ?_) (fun c10 => ?_)
        · replace hm := ifn c10 hm
          exact J_130 _ _ _ _ _ _ _ _ _ _ _ _ _ _ (lv_sub hl [0, 1, 2, 3, 4, 5, 6, 7, 8] rfl) hP hD hS hm
        · replace hm := ifp c10 hm
          refine lv_aload_n hx hb dX6_falls_81 rfl (lv_at hl 0 rfl) ?_
          refine lv_aload_n hx hb dX6_falls_82 rfl (lv_at hl 0 rfl) ?_
          refine va_get (D := (dC, dI)) (ci := 6) (v := .ref n_page) (C := RX6) (T := TX6) (N := 28) hx hb hts hinX6 hown hG.1 hP 0 rfl rfl 7 (by decide) k0 (fun _ h9 => h9) rfl dX6_falls_83 ?_
          refine lv_iload hx hb dX6_falls_86 (lv_at hl 8 rfl) ?_
          refine lv_iload_n hx hb dX6_falls_88 rfl (lv_at hl 2 rfl) ?_
          obtain ⟨r11, e12, hm⟩ := bnd1_some hm
          refine g_calli (w2 := (wd_6d76fb k n_t n_text n_readPage n_page n_trial n_book n_kept n_isKept n_seenStation n_seenOther n_seenWide n_seenWas n_sines n_at n_column n_gram n_right n_work v_thrown v_textSize v_place v_stations v_readStations v_doings v_seen v_seed v_wide v_up v_low r_page)) (va_runV (As := [.ref n_page, .int x9, .int x2]) (rest := []) ⟨hx, hb, hml, hown, hts⟩ (m_X6_reached l dC dI k F H.size n_t n_page n_text n_readPage n_page n_trial n_book n_kept n_isKept n_seenStation n_seenOther n_seenWide n_seenWas n_sines n_at n_column n_gram n_right n_work v_thrown v_textSize v_place v_stations v_readStations v_doings v_seen v_seed v_wide v_up v_low r_page x9 x2 e12) (cwV 3 hts gX6_falls_X6_reached rfl rfl rfl (by decide +kernel) ⟨Nat.le_of_ble_eq_true rfl, Nat.le_of_ble_eq_true rfl⟩) (g_preV hG hP hD hS hA [0, 1] rfl (by decide) (ci := 6) (q0 := 0) rfl rfl) rfl rfl hl.1 rfl (lv_room (Nat.le_of_ble_eq_true rfl)) dX6_falls_89 ⟨Nat.le_of_ble_eq_true rfl, Nat.le_of_ble_eq_true rfl⟩) hP hD hS hA [0, 1] [] [0, 1] rfl rfl (by decide) (by decide) rfl (by decide) (fun H locs hP hD hS => ?_)
          refine lv_iload_n hx hb dX6_falls_92 rfl (lv_at hl 1 rfl) ?_
          obtain ⟨r13, e14, hm⟩ := bnd1_some hm
          refine g_calli (w2 := (wd_6d76fb k n_t n_text n_readPage n_page n_trial n_book n_kept n_isKept n_seenStation n_seenOther n_seenWide n_seenWas n_sines n_at n_column n_gram n_right n_work v_thrown v_textSize v_place v_stations v_readStations v_doings v_seen v_seed v_wide v_up v_low r_page)) (va_runS (As := [.int r11, .int x1]) (rest := []) ⟨hx, hb, hml, hown, hts⟩ (m_X6_has l dC dI k H.size  r11 x1 e14) (va_cwS 2 hts gX6_falls_X6_has rfl rfl rfl (by decide +kernel) ⟨Nat.le_of_ble_eq_true rfl, Nat.le_of_ble_eq_true rfl⟩) (g_preS hG hP hD hS hA [] rfl (by decide)) rfl rfl hl.1 rfl (lv_room (Nat.le_of_ble_eq_true rfl)) dX6_falls_93 ⟨Nat.le_of_ble_eq_true rfl, Nat.le_of_ble_eq_true rfl⟩) hP hD hS hA [] [0, 1] [0, 1] rfl rfl (by decide) (by decide) rfl (by decide) (fun H locs hP hD hS => ?_)
          refine lv_if_eq (tgt := 130) hx hb dX6_falls_96 (by decide) (fun c15 => ?_) (fun c15 => ?_)
          · replace hm := ifp c15 hm
            exact J_130 _ _ _ _ _ _ _ _ _ _ _ _ _ _ (lv_sub hl [0, 1, 2, 3, 4, 5, 6, 7, 8] rfl) hP hD hS hm
          · replace hm := ifn c15 hm
            refine lv_lload hx hb dX6_falls_99 (lv_at hl 7 rfl) ?_
            refine lv_bipush (v := (10 : Int32)) hx hb dX6_falls_101 (by decide) ?_
            refine lv_iload_n hx hb dX6_falls_103 rfl (lv_at hl 3 rfl) ?_
            refine lv_isub hx hb dX6_falls_104 ?_
            refine lv_iload hx hb dX6_falls_105 (lv_at hl 8 rfl) ?_
            obtain ⟨r16, e17, hm⟩ := bnd1_some hm
            refine g_calli (w2 := (wd_6d76fb k n_t n_text n_readPage n_page n_trial n_book n_kept n_isKept n_seenStation n_seenOther n_seenWide n_seenWas n_sines n_at n_column n_gram n_right n_work v_thrown v_textSize v_place v_stations v_readStations v_doings v_seen v_seed v_wide v_up v_low r_page)) (va_runS (As := [.int x9]) (rest := [.int ((10 : Int32) - x3), .long x7]) ⟨hx, hb, hml, hown, hts⟩ (m_X6_ones l dC dI k F H.size  x9 e17) (va_cwS 1 hts gX6_falls_X6_ones rfl rfl rfl (by decide +kernel) ⟨Nat.le_of_ble_eq_true rfl, Nat.le_of_ble_eq_true rfl⟩) (g_preS hG hP hD hS hA [] rfl (by decide)) rfl rfl hl.1 rfl (lv_room (Nat.le_of_ble_eq_true rfl)) dX6_falls_107 ⟨Nat.le_of_ble_eq_true rfl, Nat.le_of_ble_eq_true rfl⟩) hP hD hS hA [] [0, 1] [0, 1] rfl rfl (by decide) (by decide) rfl (by decide) (fun H locs hP hD hS => ?_)
            obtain ⟨r18, e19, hm⟩ := bnd1_some hm
            refine g_calli (w2 := (wd_6d76fb k n_t n_text n_readPage n_page n_trial n_book n_kept n_isKept n_seenStation n_seenOther n_seenWide n_seenWas n_sines n_at n_column n_gram n_right n_work v_thrown v_textSize v_place v_stations v_readStations v_doings v_seen v_seed v_wide v_up v_low r_page)) (va_runS (As := [.int ((10 : Int32) - x3), .int r16]) (rest := [.long x7]) ⟨hx, hb, hml, hown, hts⟩ (m_X6_power l dC dI k F H.size  ((10 : Int32) - x3) r16 e19) (va_cwS 2 hts gX6_falls_X6_power rfl rfl rfl (by decide +kernel) ⟨Nat.le_of_ble_eq_true rfl, Nat.le_of_ble_eq_true rfl⟩) (g_preS hG hP hD hS hA [] rfl (by decide)) rfl rfl hl.1 rfl (lv_room (Nat.le_of_ble_eq_true rfl)) dX6_falls_110 ⟨Nat.le_of_ble_eq_true rfl, Nat.le_of_ble_eq_true rfl⟩) hP hD hS hA [] [0, 1] [0, 1] rfl rfl (by decide) (by decide) rfl (by decide) (fun H locs hP hD hS => ?_)
            refine lv_iload_n hx hb dX6_falls_113 rfl (lv_at hl 3 rfl) ?_
            refine lv_iload hx hb dX6_falls_114 (lv_at hl 6 rfl) ?_
            refine lv_iload hx hb dX6_falls_116 (lv_at hl 8 rfl) ?_
            obtain ⟨r20, e21, hm⟩ := bnd1_some hm
            refine g_calli (w2 := (wd_6d76fb k n_t n_text n_readPage n_page n_trial n_book n_kept n_isKept n_seenStation n_seenOther n_seenWide n_seenWas n_sines n_at n_column n_gram n_right n_work v_thrown v_textSize v_place v_stations v_readStations v_doings v_seen v_seed v_wide v_up v_low r_page)) (va_runS (As := [.int x9]) (rest := [.int x6, .int x3, .int r18, .long x7]) ⟨hx, hb, hml, hown, hts⟩ (m_X6_ones l dC dI k F H.size  x9 e21) (va_cwS 1 hts gX6_falls_X6_ones rfl rfl rfl (by decide +kernel) ⟨Nat.le_of_ble_eq_true rfl, Nat.le_of_ble_eq_true rfl⟩) (g_preS hG hP hD hS hA [] rfl (by decide)) rfl rfl hl.1 rfl (lv_room (Nat.le_of_ble_eq_true rfl)) dX6_falls_118 ⟨Nat.le_of_ble_eq_true rfl, Nat.le_of_ble_eq_true rfl⟩) hP hD hS hA [] [0, 1] [0, 1] rfl rfl (by decide) (by decide) rfl (by decide) (fun H locs hP hD hS => ?_)
            refine lv_isub hx hb dX6_falls_121 ?_
            obtain ⟨r22, e23, hm⟩ := bnd1_some hm
            refine g_calli (w2 := (wd_6d76fb k n_t n_text n_readPage n_page n_trial n_book n_kept n_isKept n_seenStation n_seenOther n_seenWide n_seenWas n_sines n_at n_column n_gram n_right n_work v_thrown v_textSize v_place v_stations v_readStations v_doings v_seen v_seed v_wide v_up v_low r_page)) (va_runS (As := [.int x3, .int (x6 - r20)]) (rest := [.int r18, .long x7]) ⟨hx, hb, hml, hown, hts⟩ (m_X6_power l dC dI k F H.size  x3 (x6 - r20) e23) (va_cwS 2 hts gX6_falls_X6_power rfl rfl rfl (by decide +kernel) ⟨Nat.le_of_ble_eq_true rfl, Nat.le_of_ble_eq_true rfl⟩) (g_preS hG hP hD hS hA [] rfl (by decide)) rfl rfl hl.1 rfl (lv_room (Nat.le_of_ble_eq_true rfl)) dX6_falls_122 ⟨Nat.le_of_ble_eq_true rfl, Nat.le_of_ble_eq_true rfl⟩) hP hD hS hA [] [0, 1] [0, 1] rfl rfl (by decide) (by decide) rfl (by decide) (fun H locs hP hD hS => ?_)
            refine lv_imul hx hb dX6_falls_125 ?_
            refine g_i2l hx hb dX6_falls_126 ?_
            refine lv_ladd hx hb dX6_falls_127 ?_
            refine lv_topl (fun t24 et24 => ?_)
            replace hm := (nmd_eq et24).trans hm
            refine lv_lstore (lv' := [(7, .long t24), (0, .ref n_t), (1, .int x1), (2, .int x2), (3, .int x3), (4, .int x4), (5, .int x5), (6, .int x6), (9, .int x9)]) hx hb dX6_falls_128 hl (by decide) rfl (fun ls hl => ?_)
            exact J_130 _ _ _ _ _ _ _ _ _ _ _ _ _ _ (lv_sub hl [1, 2, 3, 4, 5, 6, 7, 0, 8] rfl) hP hD hS hm
  unfold f_X6_falls at hm
  refine lv_aload_n hx hb dX6_falls_0 rfl (lv_at hl 0 rfl) ?_
  refine lv_iconst (v := (0 : Int32)) hx hb dX6_falls_1 (by decide) ?_
  refine va_put (D := (dC, dI)) (ci := 6) (v := .int (0 : Int32)) (ty := .int) (C := RX6) (T := TX6) (N := 28) hx hb hts hinX6 tyX6 tyX6_ok nmX6 hown hG.1 hP hD hS 0 rfl rfl 0 (by decide) k1 (fun _ h9 => h9) rfl (by decide +kernel) rfl rfl (Nat.le_of_ble_eq_true rfl) dX6_falls_2 (fun H locs hP hD hS => ?_)
  replace hP : va_P (dC, dI) vwCl (wd_6d76fb k n_t n_text n_readPage n_page n_trial n_book n_kept n_isKept n_seenStation n_seenOther n_seenWide n_seenWas n_sines n_at n_column n_gram n_right n_work (0 : Int32) v_textSize v_place v_stations v_readStations v_doings v_seen v_seed v_wide v_up v_low r_page) H := hP
  replace hD : va_D A (wd_6d76fb k n_t n_text n_readPage n_page n_trial n_book n_kept n_isKept n_seenStation n_seenOther n_seenWide n_seenWas n_sines n_at n_column n_gram n_right n_work (0 : Int32) v_textSize v_place v_stations v_readStations v_doings v_seen v_seed v_wide v_up v_low r_page) := hD
  refine lv_aload_n hx hb dX6_falls_5 rfl (lv_at hl 0 rfl) ?_
  refine lv_iload_n hx hb dX6_falls_6 rfl (lv_at hl 1 rfl) ?_
  obtain ⟨r25, e26, hm⟩ := bnd1_some hm
  refine g_calli (w2 := (wd_6d76fb k n_t n_text n_readPage n_page n_trial n_book n_kept n_isKept n_seenStation n_seenOther n_seenWide n_seenWas n_sines n_at n_column n_gram n_right n_work (0 : Int32) v_textSize v_place v_stations v_readStations v_doings v_seen v_seed v_wide v_up v_low r_page)) (va_runV (As := [.int x1]) (rest := []) ⟨hx, hb, hml, hown, hts⟩ (m_X6_noStation l dC dI k H.size n_t n_text n_readPage n_page n_trial n_book n_kept n_isKept n_seenStation n_seenOther n_seenWide n_seenWas n_sines n_at n_column n_gram n_right n_work (0 : Int32) v_textSize v_place v_stations v_readStations v_doings v_seen v_seed v_wide v_up v_low x1 e26) (cwV 1 hts gX6_falls_X6_noStation rfl rfl rfl (by decide +kernel) ⟨Nat.le_of_ble_eq_true rfl, Nat.le_of_ble_eq_true rfl⟩) (g_preV hG hP hD hS hA [0] rfl (by decide) (ci := 6) (q0 := 0) rfl rfl) rfl rfl hl.1 rfl (lv_room (Nat.le_of_ble_eq_true rfl)) dX6_falls_7 ⟨Nat.le_of_ble_eq_true rfl, Nat.le_of_ble_eq_true rfl⟩) hP hD hS hA [0] [1] [1, 0] rfl rfl (by decide) (by decide) rfl (by decide) (fun H locs hP hD hS => ?_)
  refine lv_if_eq (tgt := 15) hx hb dX6_falls_10 (by decide) (fun c27 => ?_) (fun c27 => ?_)
  · replace hm := ifp c27 hm
    refine lv_iload_n hx hb dX6_falls_15 rfl (lv_at hl 2 rfl) ?_
    refine g_i2l hx hb dX6_falls_16 ?_
    refine lv_lconst (v := (1 : Int64)) hx hb dX6_falls_17 (by decide) ?_
    refine lv_ldc2 (v := (9 : Int64)) hx hb hown k2 dX6_falls_18 ?_
    obtain ⟨r28, e29, hm⟩ := bnd1_some hm
    refine g_calli (w2 := (wd_6d76fb k n_t n_text n_readPage n_page n_trial n_book n_kept n_isKept n_seenStation n_seenOther n_seenWide n_seenWas n_sines n_at n_column n_gram n_right n_work (0 : Int32) v_textSize v_place v_stations v_readStations v_doings v_seen v_seed v_wide v_up v_low r_page)) (va_runS (As := [.long (Int32.toInt64 x2), .long (1 : Int64), .long (9 : Int64)]) (rest := []) ⟨hx, hb, hml, hown, hts⟩ (m_X6_in l dC dI k H.size  (Int32.toInt64 x2) (1 : Int64) (9 : Int64) e29) (va_cwS 3 hts gX6_falls_X6_in rfl rfl rfl (by decide +kernel) ⟨Nat.le_of_ble_eq_true rfl, Nat.le_of_ble_eq_true rfl⟩) (g_preS hG hP hD hS hA [] rfl (by decide)) rfl rfl hl.1 rfl (lv_room (Nat.le_of_ble_eq_true rfl)) dX6_falls_21 ⟨Nat.le_of_ble_eq_true rfl, Nat.le_of_ble_eq_true rfl⟩) hP hD hS hA [] [0, 1] [0, 1] rfl rfl (by decide) (by decide) rfl (by decide) (fun H locs hP hD hS => ?_)
    refine lv_if_eq (tgt := 39) hx hb dX6_falls_24 (by decide) (fun c30 => ?_) (fun c30 => ?_)
    · replace hm := ifp c30 hm
      refine lv_bipush (v := (-2 : Int32)) hx hb dX6_falls_39 (by decide) ?_
      exact RET _ _ _ _ _ _ _ _ dX6_falls_41 hm hP hD hS
    · replace hm := ifn c30 hm
      refine lv_iload_n hx hb dX6_falls_27 rfl (lv_at hl 3 rfl) ?_
      refine g_i2l hx hb dX6_falls_28 ?_
      refine lv_lconst (v := (0 : Int64)) hx hb dX6_falls_29 (by decide) ?_
      refine lv_ldc2 (v := (10 : Int64)) hx hb hown k3 dX6_falls_30 ?_
      obtain ⟨r31, e32, hm⟩ := bnd1_some hm
      refine g_calli (w2 := (wd_6d76fb k n_t n_text n_readPage n_page n_trial n_book n_kept n_isKept n_seenStation n_seenOther n_seenWide n_seenWas n_sines n_at n_column n_gram n_right n_work (0 : Int32) v_textSize v_place v_stations v_readStations v_doings v_seen v_seed v_wide v_up v_low r_page)) (va_runS (As := [.long (Int32.toInt64 x3), .long (0 : Int64), .long (10 : Int64)]) (rest := []) ⟨hx, hb, hml, hown, hts⟩ (m_X6_in l dC dI k H.size  (Int32.toInt64 x3) (0 : Int64) (10 : Int64) e32) (va_cwS 3 hts gX6_falls_X6_in rfl rfl rfl (by decide +kernel) ⟨Nat.le_of_ble_eq_true rfl, Nat.le_of_ble_eq_true rfl⟩) (g_preS hG hP hD hS hA [] rfl (by decide)) rfl rfl hl.1 rfl (lv_room (Nat.le_of_ble_eq_true rfl)) dX6_falls_33 ⟨Nat.le_of_ble_eq_true rfl, Nat.le_of_ble_eq_true rfl⟩) hP hD hS hA [] [0, 1] [0, 1] rfl rfl (by decide) (by decide) rfl (by decide) (fun H locs hP hD hS => ?_)
      refine lv_if_ne (tgt := 42) hx hb dX6_falls_36 (by decide) (fun c33 => ?_) (fun c33 => ?_)
      · replace hm := ifn c33 hm
        refine lv_aload_n hx hb dX6_falls_42 rfl (lv_at hl 0 rfl) ?_
        refine va_get (D := (dC, dI)) (ci := 6) (v := .ref n_page) (C := RX6) (T := TX6) (N := 28) hx hb hts hinX6 hown hG.1 hP 0 rfl rfl 7 (by decide) k0 (fun _ h9 => h9) rfl dX6_falls_43 ?_
        obtain ⟨r34, e35, hm⟩ := bnd1_some hm
        refine g_calli (w2 := (wd_6d76fb k n_t n_text n_readPage n_page n_trial n_book n_kept n_isKept n_seenStation n_seenOther n_seenWide n_seenWas n_sines n_at n_column n_gram n_right n_work (0 : Int32) v_textSize v_place v_stations v_readStations v_doings v_seen v_seed v_wide v_up v_low r_page)) (va_runS (As := [.ref n_page]) (rest := []) ⟨hx, hb, hml, hown, hts⟩ (m_X6_openOnes l dC dI k H.size n_page r_page  e35) (va_cwS 1 hts gX6_falls_X6_openOnes rfl rfl rfl (by decide +kernel) ⟨Nat.le_of_ble_eq_true rfl, Nat.le_of_ble_eq_true rfl⟩) (g_preS hG hP hD hS hA [1] rfl (by decide)) rfl rfl hl.1 rfl (lv_room (Nat.le_of_ble_eq_true rfl)) dX6_falls_46 ⟨Nat.le_of_ble_eq_true rfl, Nat.le_of_ble_eq_true rfl⟩) hP hD hS hA [1] [0] [0, 1] rfl rfl (by decide) (by decide) rfl (by decide) (fun H locs hP hD hS => ?_)
        refine lv_istore (lv' := [(5, .int r34), (0, .ref n_t), (1, .int x1), (2, .int x2), (3, .int x3), (4, .int x4)]) hx hb dX6_falls_49 hl (by decide) rfl (fun ls hl => ?_)
        refine lv_iload hx hb dX6_falls_51 (lv_at hl 0 rfl) ?_
        obtain ⟨r36, e37, hm⟩ := bnd1_some hm
        refine g_calli (w2 := (wd_6d76fb k n_t n_text n_readPage n_page n_trial n_book n_kept n_isKept n_seenStation n_seenOther n_seenWide n_seenWas n_sines n_at n_column n_gram n_right n_work (0 : Int32) v_textSize v_place v_stations v_readStations v_doings v_seen v_seed v_wide v_up v_low r_page)) (va_runS (As := [.int r34]) (rest := []) ⟨hx, hb, hml, hown, hts⟩ (m_X6_ones l dC dI k F H.size  r34 e37) (va_cwS 1 hts gX6_falls_X6_ones rfl rfl rfl (by decide +kernel) ⟨Nat.le_of_ble_eq_true rfl, Nat.le_of_ble_eq_true rfl⟩) (g_preS hG hP hD hS hA [] rfl (by decide)) rfl rfl hl.1 rfl (lv_room (Nat.le_of_ble_eq_true rfl)) dX6_falls_53 ⟨Nat.le_of_ble_eq_true rfl, Nat.le_of_ble_eq_true rfl⟩) hP hD hS hA [] [0, 1] [0, 1] rfl rfl (by decide) (by decide) rfl (by decide) (fun H locs hP hD hS => ?_)
        refine lv_istore (lv' := [(6, .int r36), (5, .int r34), (0, .ref n_t), (1, .int x1), (2, .int x2), (3, .int x3), (4, .int x4)]) hx hb dX6_falls_56 hl (by decide) rfl (fun ls hl => ?_)
        refine lv_lconst (v := (0 : Int64)) hx hb dX6_falls_58 (by decide) ?_
        refine lv_lstore (lv' := [(7, .long (0 : Int64)), (6, .int r36), (5, .int r34), (0, .ref n_t), (1, .int x1), (2, .int x2), (3, .int x3), (4, .int x4)]) hx hb dX6_falls_59 hl (by decide) rfl (fun ls hl => ?_)
        refine lv_iconst (v := (0 : Int32)) hx hb dX6_falls_61 (by decide) ?_
        refine lv_istore (lv' := [(9, .int (0 : Int32)), (7, .long (0 : Int64)), (6, .int r36), (5, .int r34), (0, .ref n_t), (1, .int x1), (2, .int x2), (3, .int x3), (4, .int x4)]) hx hb dX6_falls_62 hl (by decide) rfl (fun ls hl => ?_)
        exact L_64 F _ _ _ _ _ _ _ _ _ _ _ _ _ _ (lv_sub hl [4, 5, 6, 7, 8, 3, 2, 1, 0] rfl) hP hD hS hm
      · replace hm := ifp c33 hm
        refine lv_bipush (v := (-2 : Int32)) hx hb dX6_falls_39 (by decide) ?_
        exact RET _ _ _ _ _ _ _ _ dX6_falls_41 hm hP hD hS
  · replace hm := ifn c27 hm
    refine lv_iconst (v := (-1 : Int32)) hx hb dX6_falls_13 (by decide) ?_
    exact RET _ _ _ _ _ _ _ _ dX6_falls_14 hm hP hD hS
set_option maxRecDepth 100000 in
theorem m_X6_falls (l : Launch) (dC : Nat → ClassId) (dI : Nat → Nat → Nat) (k : Nat → ClassId) (F : Nat) (sz : Nat) (n_t n_text n_readPage n_page n_trial n_book n_kept n_isKept n_seenStation n_seenOther n_seenWide n_seenWas n_sines n_at n_column n_gram n_right n_work : Nat) (v_thrown : Int32) (v_textSize : Int32) (v_place : Int32) (v_stations : Int32) (v_readStations : Int32) (v_doings : Int32) (v_seen : Int32) (v_seed : Int64) (v_wide : Int32) (v_up : Int64) (v_low : Int64) (r_page : Nat → Int32) (x1 : Int32) (x2 : Int32) (x3 : Int32) (x4 : Int32) {o_r : Int32} {o_v_thrown : (Int32)} {o_v_up : (Int64)} {o_v_low : (Int64)} (hm : f_X6_falls F x1 x2 x3 x4 v_thrown v_stations v_up v_low r_page = some (o_r, o_v_thrown, o_v_up, o_v_low)) : Met l yX6_falls wsX6_falls rm_X6_falls (gPre dC dI k [.ref n_t, .int x1, .int x2, .int x3, .int x4] sz (wd_6d76fb k n_t n_text n_readPage n_page n_trial n_book n_kept n_isKept n_seenStation n_seenOther n_seenWide n_seenWas n_sines n_at n_column n_gram n_right n_work v_thrown v_textSize v_place v_stations v_readStations v_doings v_seen v_seed v_wide v_up v_low r_page)) (gQI dC dI (va_A (wd_6d76fb k n_t n_text n_readPage n_page n_trial n_book n_kept n_isKept n_seenStation n_seenOther n_seenWide n_seenWas n_sines n_at n_column n_gram n_right n_work v_thrown v_textSize v_place v_stations v_readStations v_doings v_seen v_seed v_wide v_up v_low r_page) sz) o_r (wd_6d76fb k n_t n_text n_readPage n_page n_trial n_book n_kept n_isKept n_seenStation n_seenOther n_seenWide n_seenWas n_sines n_at n_column n_gram n_right n_work o_v_thrown v_textSize v_place v_stations v_readStations v_doings v_seen v_seed v_wide o_v_up o_v_low r_page)) 0 0 (va_A (wd_6d76fb k n_t n_text n_readPage n_page n_trial n_book n_kept n_isKept n_seenStation n_seenOther n_seenWide n_seenWas n_sines n_at n_column n_gram n_right n_work v_thrown v_textSize v_place v_stations v_readStations v_doings v_seen v_seed v_wide v_up v_low r_page) sz) := by
  refine g_entry (cc := cX6_falls) (maxL := 10) (ret := (some .int)) (lv := [(0, .ref n_t), (1, .int x1), (2, .int x2), (3, .int x3), (4, .int x4)]) (by decide +kernel) rfl (Nat.le_of_ble_eq_true rfl) rfl (fun p e s m below meth c ls hx hb hr hml hts hown hlk hnm hsz hG hA hP hD hS hl => ?_)
  exact k_X6_falls hx hb hml hts hown hG hA F n_t n_text n_readPage n_page n_trial n_book n_kept n_isKept n_seenStation n_seenOther n_seenWide n_seenWas n_sines n_at n_column n_gram n_right n_work v_thrown v_textSize v_place v_stations v_readStations v_doings v_seen v_seed v_wide v_up v_low r_page x1 x2 x3 x4 o_r o_v_thrown o_v_up o_v_low (fun pc H locs ls v q_v_thrown q_v_up q_v_low hd ho hP hD hS => by cases ho; exact g_ireti hx hb hr hlk hP hD hS hd) s.heap [] ls hl hP hD hS hm
end
section
set_option maxHeartbeats 4000000 in
set_option maxRecDepth 100000 in
theorem k_X6_seed {p : Program} {l : Launch} {e : Env} {s : State} {m : MethodId} {args : Array Value} {below : List Frame} {meth : Method} {c : Code} {A : Nat → Prop} {Q : State → Prop} {dC : Nat → ClassId} {dI : Nat → Nat → Nat} {k : Nat → ClassId} (hx : p.tables.exec = Jvm.exec) (hb : c.code = cX6_seed) (hml : c.maxLocals = 5) (hts : ∀ w ∈ wsX6_seed, w.before args s = true) (hown : s.vm.findClass RX6 = some m.cls) (hG : gK dC dI k A s) (hA : ∀ q : Nat, s.heap.size ≤ q → A q) (n_t n_text n_readPage n_page n_trial n_book n_kept n_isKept n_seenStation n_seenOther n_seenWide n_seenWas n_sines n_at n_column n_gram n_right n_work : Nat) (v_thrown : Int32) (v_textSize : Int32) (v_place : Int32) (v_stations : Int32) (v_readStations : Int32) (v_doings : Int32) (v_seen : Int32) (v_seed : Int64) (v_wide : Int32) (v_up : Int64) (v_low : Int64) (x1 : Int64) (o_r : Int64) (o_v_thrown : (Int32)) (o_v_seed : (Int64)) (RET : ∀ (pc : Nat) (H : Heap) (locs : List Loc) (ls : Array Slot) (v : Int64) (q_v_thrown : Int32) (q_v_seed : Int64), decode cX6_seed pc = .ok (.lreturn, 1) → some (v, q_v_thrown, q_v_seed) = some (o_r, o_v_thrown, o_v_seed) → va_P (dC, dI) vwCl (wd_471624 k n_t n_text n_readPage n_page n_trial n_book n_kept n_isKept n_seenStation n_seenOther n_seenWide n_seenWas n_sines n_at n_column n_gram n_right n_work q_v_thrown v_textSize v_place v_stations v_readStations v_doings v_seen q_v_seed v_wide v_up v_low) H → va_D A (wd_471624 k n_t n_text n_readPage n_page n_trial n_book n_kept n_isKept n_seenStation n_seenOther n_seenWide n_seenWas n_sines n_at n_column n_gram n_right n_work q_v_thrown v_textSize v_place v_stations v_readStations v_doings v_seen q_v_seed v_wide v_up v_low) → va_S A s.heap H locs → W p l e rm_X6_seed s m args below meth c H locs 0 0 Q (F0 m pc ls [.long v])) (H : Heap) (locs : List Loc) (ls : Array Slot) (hl : lv_has ls 5 [(0, .ref n_t), (1, .long x1)]) (hP : va_P (dC, dI) vwCl (wd_471624 k n_t n_text n_readPage n_page n_trial n_book n_kept n_isKept n_seenStation n_seenOther n_seenWide n_seenWas n_sines n_at n_column n_gram n_right n_work v_thrown v_textSize v_place v_stations v_readStations v_doings v_seen v_seed v_wide v_up v_low) H) (hD : va_D A (wd_471624 k n_t n_text n_readPage n_page n_trial n_book n_kept n_isKept n_seenStation n_seenOther n_seenWide n_seenWas n_sines n_at n_column n_gram n_right n_work v_thrown v_textSize v_place v_stations v_readStations v_doings v_seen v_seed v_wide v_up v_low)) (hS : va_S A s.heap H locs) (hm : f_X6_seed x1 v_thrown v_seed = some (o_r, o_v_thrown, o_v_seed)) : W p l e rm_X6_seed s m args below meth c H locs 0 0 Q (F0 m 0 ls []) := by
  have hinX6 : ∀ w ∈ u_ws RX6 TX6 28, w ∈ wsX6_seed := by decide +kernel
  have k0 := hts (.fieldLink RX6 67 "CaveLegsModel" "thrown" "I") (by decide +kernel)
  have k1 := hts (.fieldLink RX6 272 "CaveLegsModel" "seed" "J") (by decide +kernel)
  unfold f_X6_seed at hm
  refine lv_aload_n hx hb dX6_seed_0 rfl (lv_at hl 0 rfl) ?_
  refine lv_iconst (v := (0 : Int32)) hx hb dX6_seed_1 (by decide) ?_
  refine va_put (D := (dC, dI)) (ci := 6) (v := .int (0 : Int32)) (ty := .int) (C := RX6) (T := TX6) (N := 28) hx hb hts hinX6 tyX6 tyX6_ok nmX6 hown hG.1 hP hD hS 0 rfl rfl 0 (by decide) k0 (fun _ h9 => h9) rfl (by decide +kernel) rfl rfl (Nat.le_of_ble_eq_true rfl) dX6_seed_2 (fun H locs hP hD hS => ?_)
  replace hP : va_P (dC, dI) vwCl (wd_471624 k n_t n_text n_readPage n_page n_trial n_book n_kept n_isKept n_seenStation n_seenOther n_seenWide n_seenWas n_sines n_at n_column n_gram n_right n_work (0 : Int32) v_textSize v_place v_stations v_readStations v_doings v_seen v_seed v_wide v_up v_low) H := hP
  replace hD : va_D A (wd_471624 k n_t n_text n_readPage n_page n_trial n_book n_kept n_isKept n_seenStation n_seenOther n_seenWide n_seenWas n_sines n_at n_column n_gram n_right n_work (0 : Int32) v_textSize v_place v_stations v_readStations v_doings v_seen v_seed v_wide v_up v_low) := hD
  refine lv_aload_n hx hb dX6_seed_5 rfl (lv_at hl 0 rfl) ?_
  refine va_get (D := (dC, dI)) (ci := 6) (v := .long v_seed) (C := RX6) (T := TX6) (N := 28) hx hb hts hinX6 hown hG.1 hP 0 rfl rfl 18 (by decide) k1 (fun _ h9 => h9) rfl dX6_seed_6 ?_
  refine lv_lstore_n (lv' := [(3, .long v_seed), (0, .ref n_t), (1, .long x1)]) hx hb dX6_seed_9 rfl hl (by decide) rfl (fun ls hl => ?_)
  refine lv_aload_n hx hb dX6_seed_10 rfl (lv_at hl 1 rfl) ?_
  refine lv_lload_n hx hb dX6_seed_11 rfl (lv_at hl 2 rfl) ?_
  refine va_put (D := (dC, dI)) (ci := 6) (v := .long x1) (ty := .long) (C := RX6) (T := TX6) (N := 28) hx hb hts hinX6 tyX6 tyX6_ok nmX6 hown hG.1 hP hD hS 0 rfl rfl 18 (by decide) k1 (fun _ h9 => h9) rfl (by decide +kernel) rfl rfl (Nat.le_of_ble_eq_true rfl) dX6_seed_12 (fun H locs hP hD hS => ?_)
  replace hP : va_P (dC, dI) vwCl (wd_471624 k n_t n_text n_readPage n_page n_trial n_book n_kept n_isKept n_seenStation n_seenOther n_seenWide n_seenWas n_sines n_at n_column n_gram n_right n_work (0 : Int32) v_textSize v_place v_stations v_readStations v_doings v_seen x1 v_wide v_up v_low) H := hP
  replace hD : va_D A (wd_471624 k n_t n_text n_readPage n_page n_trial n_book n_kept n_isKept n_seenStation n_seenOther n_seenWide n_seenWas n_sines n_at n_column n_gram n_right n_work (0 : Int32) v_textSize v_place v_stations v_readStations v_doings v_seen x1 v_wide v_up v_low) := hD
  refine lv_lload_n hx hb dX6_seed_15 rfl (lv_at hl 0 rfl) ?_
  exact RET _ _ _ _ _ _ _ dX6_seed_16 hm hP hD hS
set_option maxRecDepth 100000 in
theorem m_X6_seed (l : Launch) (dC : Nat → ClassId) (dI : Nat → Nat → Nat) (k : Nat → ClassId) (sz : Nat) (n_t n_text n_readPage n_page n_trial n_book n_kept n_isKept n_seenStation n_seenOther n_seenWide n_seenWas n_sines n_at n_column n_gram n_right n_work : Nat) (v_thrown : Int32) (v_textSize : Int32) (v_place : Int32) (v_stations : Int32) (v_readStations : Int32) (v_doings : Int32) (v_seen : Int32) (v_seed : Int64) (v_wide : Int32) (v_up : Int64) (v_low : Int64) (x1 : Int64) {o_r : Int64} {o_v_thrown : (Int32)} {o_v_seed : (Int64)} (hm : f_X6_seed x1 v_thrown v_seed = some (o_r, o_v_thrown, o_v_seed)) : Met l yX6_seed wsX6_seed rm_X6_seed (gPre dC dI k [.ref n_t, .long x1] sz (wd_471624 k n_t n_text n_readPage n_page n_trial n_book n_kept n_isKept n_seenStation n_seenOther n_seenWide n_seenWas n_sines n_at n_column n_gram n_right n_work v_thrown v_textSize v_place v_stations v_readStations v_doings v_seen v_seed v_wide v_up v_low)) (gQL dC dI (va_A (wd_471624 k n_t n_text n_readPage n_page n_trial n_book n_kept n_isKept n_seenStation n_seenOther n_seenWide n_seenWas n_sines n_at n_column n_gram n_right n_work v_thrown v_textSize v_place v_stations v_readStations v_doings v_seen v_seed v_wide v_up v_low) sz) o_r (wd_471624 k n_t n_text n_readPage n_page n_trial n_book n_kept n_isKept n_seenStation n_seenOther n_seenWide n_seenWas n_sines n_at n_column n_gram n_right n_work o_v_thrown v_textSize v_place v_stations v_readStations v_doings v_seen o_v_seed v_wide v_up v_low)) 0 0 (va_A (wd_471624 k n_t n_text n_readPage n_page n_trial n_book n_kept n_isKept n_seenStation n_seenOther n_seenWide n_seenWas n_sines n_at n_column n_gram n_right n_work v_thrown v_textSize v_place v_stations v_readStations v_doings v_seen v_seed v_wide v_up v_low) sz) := by
  refine g_entry (cc := cX6_seed) (maxL := 5) (ret := (some .long)) (lv := [(0, .ref n_t), (1, .long x1)]) (by decide +kernel) rfl (Nat.le_of_ble_eq_true rfl) rfl (fun p e s m below meth c ls hx hb hr hml hts hown hlk hnm hsz hG hA hP hD hS hl => ?_)
  exact k_X6_seed hx hb hml hts hown hG hA n_t n_text n_readPage n_page n_trial n_book n_kept n_isKept n_seenStation n_seenOther n_seenWide n_seenWas n_sines n_at n_column n_gram n_right n_work v_thrown v_textSize v_place v_stations v_readStations v_doings v_seen v_seed v_wide v_up v_low x1 o_r o_v_thrown o_v_seed (fun pc H locs ls v q_v_thrown q_v_seed hd ho hP hD hS => by cases ho; exact g_lret hx hb hr hlk hP hD hS hd) s.heap [] ls hl hP hD hS hm
end
section
set_option maxHeartbeats 4000000 in
set_option maxRecDepth 100000 in
theorem k_X6_drawn {p : Program} {l : Launch} {e : Env} {s : State} {m : MethodId} {args : Array Value} {below : List Frame} {meth : Method} {c : Code} {A : Nat → Prop} {Q : State → Prop} {dC : Nat → ClassId} {dI : Nat → Nat → Nat} {k : Nat → ClassId} (hx : p.tables.exec = Jvm.exec) (hb : c.code = cX6_drawn) (hml : c.maxLocals = 8) (hts : ∀ w ∈ wsX6_drawn, w.before args s = true) (hown : s.vm.findClass RX6 = some m.cls) (hG : gK dC dI k A s) (hA : ∀ q : Nat, s.heap.size ≤ q → A q) (F : Nat) (n_t n_text n_readPage n_page n_trial n_book n_kept n_isKept n_seenStation n_seenOther n_seenWide n_seenWas n_sines n_at n_column n_gram n_right n_work : Nat) (v_thrown : Int32) (v_textSize : Int32) (v_place : Int32) (v_stations : Int32) (v_readStations : Int32) (v_doings : Int32) (v_seen : Int32) (v_seed : Int64) (v_wide : Int32) (v_up : Int64) (v_low : Int64) (r_page : Nat → Int32) (x1 : Int32) (o_r : Int32) (o_v_thrown : (Int32)) (o_v_seed : (Int64)) (RET : ∀ (pc : Nat) (H : Heap) (locs : List Loc) (ls : Array Slot) (v : Int32) (q_v_thrown : Int32) (q_v_seed : Int64), decode cX6_drawn pc = .ok (.ireturn, 1) → some (v, q_v_thrown, q_v_seed) = some (o_r, o_v_thrown, o_v_seed) → va_P (dC, dI) vwCl (wd_6d76fb k n_t n_text n_readPage n_page n_trial n_book n_kept n_isKept n_seenStation n_seenOther n_seenWide n_seenWas n_sines n_at n_column n_gram n_right n_work q_v_thrown v_textSize v_place v_stations v_readStations v_doings v_seen q_v_seed v_wide v_up v_low r_page) H → va_D A (wd_6d76fb k n_t n_text n_readPage n_page n_trial n_book n_kept n_isKept n_seenStation n_seenOther n_seenWide n_seenWas n_sines n_at n_column n_gram n_right n_work q_v_thrown v_textSize v_place v_stations v_readStations v_doings v_seen q_v_seed v_wide v_up v_low r_page) → va_S A s.heap H locs → W p l e rm_X6_drawn s m args below meth c H locs 0 0 Q (F0 m pc ls [.int v])) (H : Heap) (locs : List Loc) (ls : Array Slot) (hl : lv_has ls 8 [(0, .ref n_t), (1, .int x1)]) (hP : va_P (dC, dI) vwCl (wd_6d76fb k n_t n_text n_readPage n_page n_trial n_book n_kept n_isKept n_seenStation n_seenOther n_seenWide n_seenWas n_sines n_at n_column n_gram n_right n_work v_thrown v_textSize v_place v_stations v_readStations v_doings v_seen v_seed v_wide v_up v_low r_page) H) (hD : va_D A (wd_6d76fb k n_t n_text n_readPage n_page n_trial n_book n_kept n_isKept n_seenStation n_seenOther n_seenWide n_seenWas n_sines n_at n_column n_gram n_right n_work v_thrown v_textSize v_place v_stations v_readStations v_doings v_seen v_seed v_wide v_up v_low r_page)) (hS : va_S A s.heap H locs) (hm : f_X6_drawn F x1 v_thrown v_seed r_page = some (o_r, o_v_thrown, o_v_seed)) : W p l e rm_X6_drawn s m args below meth c H locs 0 0 Q (F0 m 0 ls []) := by
  have hinX6 : ∀ w ∈ u_ws RX6 TX6 28, w ∈ wsX6_drawn := by decide +kernel
  have k0 := hts (.fieldLink RX6 272 "CaveLegsModel" "seed" "J") (by decide +kernel)
  have k1 := hts (.constantLong RX6 277 (6364136223846793005)) (by decide +kernel)
  have k2 := hts (.constantLong RX6 279 (1442695040888963407)) (by decide +kernel)
  have k3 := hts (.fieldLink RX6 20 "CaveLegsModel" "page" "[I") (by decide +kernel)
  have k4 := hts (.fieldLink RX6 67 "CaveLegsModel" "thrown" "I") (by decide +kernel)
  have k5 := hts (.constantLong RX6 275 (40)) (by decide +kernel)
  have L_27 : ∀ (n27 : Nat) (v_thrown : Int32) (v_seed : Int64) (x1 : Int32) (x2 : Int32) (x3 : Int32) (x4 : Int32) (H : Heap) (locs : List Loc) (ls : Array Slot), lv_has ls 8 [(0, .ref n_t), (1, .int x1), (2, .int x2), (3, .int x3), (4, .int x4)] → va_P (dC, dI) vwCl (wd_6d76fb k n_t n_text n_readPage n_page n_trial n_book n_kept n_isKept n_seenStation n_seenOther n_seenWide n_seenWas n_sines n_at n_column n_gram n_right n_work v_thrown v_textSize v_place v_stations v_readStations v_doings v_seen v_seed v_wide v_up v_low r_page) H → va_D A (wd_6d76fb k n_t n_text n_readPage n_page n_trial n_book n_kept n_isKept n_seenStation n_seenOther n_seenWide n_seenWas n_sines n_at n_column n_gram n_right n_work v_thrown v_textSize v_place v_stations v_readStations v_doings v_seen v_seed v_wide v_up v_low r_page) → va_S A s.heap H locs → f_X6_drawn_L27 F r_page n27 v_thrown v_seed x1 x2 x3 x4 = some (o_r, o_v_thrown, o_v_seed) → W p l e rm_X6_drawn s m args below meth c H locs 0 0 Q (F0 m 27 ls []) := by
    intro n27
    induction n27 with
    | zero =>
      intro v_thrown v_seed x1 x2 x3 x4 H locs ls hl hP hD hS hm
      exact non_some hm
    | succ n27 ih27 =>
      have J_162 : ∀ (v_thrown : Int32) (v_seed : Int64) (x1 : Int32) (x2 : Int32) (x4 : Int32) (s0 : Int32) (s1 : Int32) (H : Heap) (locs : List Loc) (ls : Array Slot), lv_has ls 8 [(0, .ref n_t), (1, .int x1), (2, .int x2), (4, .int x4)] → va_P (dC, dI) vwCl (wd_6d76fb k n_t n_text n_readPage n_page n_trial n_book n_kept n_isKept n_seenStation n_seenOther n_seenWide n_seenWas n_sines n_at n_column n_gram n_right n_work v_thrown v_textSize v_place v_stations v_readStations v_doings v_seen v_seed v_wide v_up v_low r_page) H → va_D A (wd_6d76fb k n_t n_text n_readPage n_page n_trial n_book n_kept n_isKept n_seenStation n_seenOther n_seenWide n_seenWas n_sines n_at n_column n_gram n_right n_work v_thrown v_textSize v_place v_stations v_readStations v_doings v_seen v_seed v_wide v_up v_low r_page) → va_S A s.heap H locs → f_X6_drawn_J162 F r_page (f_X6_drawn_L27 F r_page n27) v_thrown v_seed x1 x2 x4 s0 s1 = some (o_r, o_v_thrown, o_v_seed) → W p l e rm_X6_drawn s m args below meth c H locs 0 0 Q (F0 m 162 ls [.int s1, .int s0]) := by
        intro v_thrown v_seed x1 x2 x4 s0 s1 H locs ls hl hP hD hS hm
        unfold f_X6_drawn_J162 at hm
        refine lv_iadd hx hb dX6_drawn_162 ?_
        refine lv_topi (fun t1 et1 => ?_)
        replace hm := (nmd_eq et1).trans hm
        refine lv_istore_n (lv' := [(3, .int t1), (0, .ref n_t), (1, .int x1), (2, .int x2), (4, .int x4)]) hx hb dX6_drawn_163 rfl hl (by decide) rfl (fun ls hl => ?_)
        obtain ⟨t2, et2⟩ : ∃ y : Int32, y = x4 + (1 : Int32) := ⟨_, rfl⟩
        replace hm := (nmd_eq et2).trans hm
        refine lv_iinc (v := t2) (lv' := [(4, .int t2), (3, .int t1), (0, .ref n_t), (1, .int x1), (2, .int x2)]) hx hb dX6_drawn_164 hl (k := 4) rfl (by rw [et2]; rfl) (by decide) rfl (fun ls hl => ?_)
        refine lv_goto (tgt := 27) hx hb dX6_drawn_167 (by decide) ?_
        exact ih27 _ _ _ _ _ _ _ _ _ (lv_sub hl [2, 3, 4, 1, 0] rfl) hP hD hS hm
      have J_152 : ∀ (v_thrown : Int32) (v_seed : Int64) (x1 : Int32) (x2 : Int32) (x3 : Int32) (x4 : Int32) (H : Heap) (locs : List Loc) (ls : Array Slot), lv_has ls 8 [(0, .ref n_t), (1, .int x1), (2, .int x2), (3, .int x3), (4, .int x4)] → va_P (dC, dI) vwCl (wd_6d76fb k n_t n_text n_readPage n_page n_trial n_book n_kept n_isKept n_seenStation n_seenOther n_seenWide n_seenWas n_sines n_at n_column n_gram n_right n_work v_thrown v_textSize v_place v_stations v_readStations v_doings v_seen v_seed v_wide v_up v_low r_page) H → va_D A (wd_6d76fb k n_t n_text n_readPage n_page n_trial n_book n_kept n_isKept n_seenStation n_seenOther n_seenWide n_seenWas n_sines n_at n_column n_gram n_right n_work v_thrown v_textSize v_place v_stations v_readStations v_doings v_seen v_seed v_wide v_up v_low r_page) → va_S A s.heap H locs → f_X6_drawn_J152 F r_page (f_X6_drawn_L27 F r_page n27) v_thrown v_seed x1 x2 x3 x4 = some (o_r, o_v_thrown, o_v_seed) → W p l e rm_X6_drawn s m args below meth c H locs 0 0 Q (F0 m 152 ls []) := by
        intro v_thrown v_seed x1 x2 x3 x4 H locs ls hl hP hD hS hm
        unfold f_X6_drawn_J152 at hm
        refine lv_iload_n hx hb dX6_drawn_152 rfl (lv_at hl 3 rfl) ?_
        refine lv_iload_n hx hb dX6_drawn_153 rfl (lv_at hl 2 rfl) ?_
        refine lv_if_eq (tgt := 161) hx hb dX6_drawn_154 (by decide) (fun c3 => ?_) (fun c3 => ?_)
        · replace hm := ifp c3 hm
          refine lv_iconst (v := (0 : Int32)) hx hb dX6_drawn_161 (by decide) ?_
          exact J_162 _ _ _ _ _ _ _ _ _ _ (lv_sub hl [0, 1, 2, 4] rfl) hP hD hS hm
        · replace hm := ifn c3 hm
          refine lv_iconst (v := (1 : Int32)) hx hb dX6_drawn_157 (by decide) ?_
          refine lv_goto (tgt := 162) hx hb dX6_drawn_158 (by decide) ?_
          exact J_162 _ _ _ _ _ _ _ _ _ _ (lv_sub hl [0, 1, 2, 4] rfl) hP hD hS hm
      have J_151 : ∀ (v_thrown : Int32) (v_seed : Int64) (x1 : Int32) (x3 : Int32) (x4 : Int32) (s0 : Int32) (H : Heap) (locs : List Loc) (ls : Array Slot), lv_has ls 8 [(0, .ref n_t), (1, .int x1), (3, .int x3), (4, .int x4)] → va_P (dC, dI) vwCl (wd_6d76fb k n_t n_text n_readPage n_page n_trial n_book n_kept n_isKept n_seenStation n_seenOther n_seenWide n_seenWas n_sines n_at n_column n_gram n_right n_work v_thrown v_textSize v_place v_stations v_readStations v_doings v_seen v_seed v_wide v_up v_low r_page) H → va_D A (wd_6d76fb k n_t n_text n_readPage n_page n_trial n_book n_kept n_isKept n_seenStation n_seenOther n_seenWide n_seenWas n_sines n_at n_column n_gram n_right n_work v_thrown v_textSize v_place v_stations v_readStations v_doings v_seen v_seed v_wide v_up v_low r_page) → va_S A s.heap H locs → f_X6_drawn_J151 F r_page (f_X6_drawn_L27 F r_page n27) v_thrown v_seed x1 x3 x4 s0 = some (o_r, o_v_thrown, o_v_seed) → W p l e rm_X6_drawn s m args below meth c H locs 0 0 Q (F0 m 151 ls [.int s0]) := by
        intro v_thrown v_seed x1 x3 x4 s0 H locs ls hl hP hD hS hm
        unfold f_X6_drawn_J151 at hm
        refine lv_istore_n (lv' := [(2, .int s0), (0, .ref n_t), (1, .int x1), (3, .int x3), (4, .int x4)]) hx hb dX6_drawn_151 rfl hl (by decide) rfl (fun ls hl => ?_)
        exact J_152 _ _ _ _ _ _ _ _ _ (lv_sub hl [1, 2, 0, 3, 4] rfl) hP hD hS hm
      intro v_thrown v_seed x1 x2 x3 x4 H locs ls hl hP hD hS hm
      replace hm : f_X6_drawn_B27 F r_page (f_X6_drawn_L27 F r_page n27) v_thrown v_seed x1 x2 x3 x4 = some (o_r, o_v_thrown, o_v_seed) := hm
      unfold f_X6_drawn_B27 at hm
      refine lv_iload hx hb dX6_drawn_27 (lv_at hl 4 rfl) ?_
      refine lv_iload_n hx hb dX6_drawn_29 rfl (lv_at hl 1 rfl) ?_
      refine lv_icmp_ge (tgt := 170) hx hb dX6_drawn_30 (by decide) (fun c4 => ?_) (fun c4 => ?_)
      · replace hm := ifp c4 hm
        refine lv_iload_n hx hb dX6_drawn_170 rfl (lv_at hl 3 rfl) ?_
        exact RET _ _ _ _ _ _ _ dX6_drawn_171 hm hP hD hS
      · replace hm := ifn c4 hm
        refine lv_aload_n hx hb dX6_drawn_33 rfl (lv_at hl 0 rfl) ?_
        refine lv_aload_n hx hb dX6_drawn_34 rfl (lv_at hl 0 rfl) ?_
        refine va_get (D := (dC, dI)) (ci := 6) (v := .long v_seed) (C := RX6) (T := TX6) (N := 28) hx hb hts hinX6 hown hG.1 hP 0 rfl rfl 18 (by decide) k0 (fun _ h9 => h9) rfl dX6_drawn_35 ?_
        refine lv_ldc2 (v := (6364136223846793005 : Int64)) hx hb hown k1 dX6_drawn_38 ?_
        refine lv_lmul hx hb dX6_drawn_41 ?_
        refine lv_ldc2 (v := (1442695040888963407 : Int64)) hx hb hown k2 dX6_drawn_42 ?_
        refine lv_ladd hx hb dX6_drawn_45 ?_
        refine lv_topl (fun t5 et5 => ?_)
        replace hm := (nmd_eq et5).trans hm
        refine va_put (D := (dC, dI)) (ci := 6) (v := .long t5) (ty := .long) (C := RX6) (T := TX6) (N := 28) hx hb hts hinX6 tyX6 tyX6_ok nmX6 hown hG.1 hP hD hS 0 rfl rfl 18 (by decide) k0 (fun _ h9 => h9) rfl (by decide +kernel) rfl rfl (Nat.le_of_ble_eq_true rfl) dX6_drawn_46 (fun H locs hP hD hS => ?_)
        replace hP : va_P (dC, dI) vwCl (wd_6d76fb k n_t n_text n_readPage n_page n_trial n_book n_kept n_isKept n_seenStation n_seenOther n_seenWide n_seenWas n_sines n_at n_column n_gram n_right n_work v_thrown v_textSize v_place v_stations v_readStations v_doings v_seen t5 v_wide v_up v_low r_page) H := hP
        replace hD : va_D A (wd_6d76fb k n_t n_text n_readPage n_page n_trial n_book n_kept n_isKept n_seenStation n_seenOther n_seenWide n_seenWas n_sines n_at n_column n_gram n_right n_work v_thrown v_textSize v_place v_stations v_readStations v_doings v_seen t5 v_wide v_up v_low r_page) := hD
        refine lv_aload_n hx hb dX6_drawn_49 rfl (lv_at hl 0 rfl) ?_
        refine va_get (D := (dC, dI)) (ci := 6) (v := .long t5) (C := RX6) (T := TX6) (N := 28) hx hb hts hinX6 hown hG.1 hP 0 rfl rfl 18 (by decide) k0 (fun _ h9 => h9) rfl dX6_drawn_50 ?_
        refine lv_bipush (v := (33 : Int32)) hx hb dX6_drawn_53 (by decide) ?_
        refine g_lushr hx hb dX6_drawn_55 ?_
        refine g_l2i hx hb dX6_drawn_56 ?_
        refine lv_topi (fun t6 et6 => ?_)
        replace hm := (nmd_eq et6).trans hm
        refine lv_istore (lv' := [(5, .int t6), (0, .ref n_t), (1, .int x1), (2, .int x2), (3, .int x3), (4, .int x4)]) hx hb dX6_drawn_57 hl (by decide) rfl (fun ls hl => ?_)
        refine lv_aload_n hx hb dX6_drawn_59 rfl (lv_at hl 1 rfl) ?_
        refine va_get (D := (dC, dI)) (ci := 6) (v := .ref n_page) (C := RX6) (T := TX6) (N := 28) hx hb hts hinX6 hown hG.1 hP 0 rfl rfl 7 (by decide) k3 (fun _ h9 => h9) rfl dX6_drawn_60 ?_
        refine lv_iconst (v := (0 : Int32)) hx hb dX6_drawn_63 (by decide) ?_
        obtain ⟨hi7, hm⟩ := chk_some hm
        refine va_iald hx hb hG.1 hP 1 0 rfl rfl hi7 dX6_drawn_64 ?_
        refine lv_if_le (tgt := 152) hx hb dX6_drawn_65 (by decide) (fun c8 => ?_) (fun c8 => ?_)
        · replace hm := ifp c8 hm
          exact J_152 _ _ _ _ _ _ _ _ _ (lv_sub hl [1, 2, 3, 4, 5] rfl) hP hD hS hm
        · replace hm := ifn c8 hm
          refine lv_aload_n hx hb dX6_drawn_68 rfl (lv_at hl 1 rfl) ?_
          refine va_get (D := (dC, dI)) (ci := 6) (v := .ref n_page) (C := RX6) (T := TX6) (N := 28) hx hb hts hinX6 hown hG.1 hP 0 rfl rfl 7 (by decide) k3 (fun _ h9 => h9) rfl dX6_drawn_69 ?_
          obtain ⟨r9, e10, hm⟩ := bnd1_some hm
          refine g_calli (w2 := (wd_6d76fb k n_t n_text n_readPage n_page n_trial n_book n_kept n_isKept n_seenStation n_seenOther n_seenWide n_seenWas n_sines n_at n_column n_gram n_right n_work v_thrown v_textSize v_place v_stations v_readStations v_doings v_seen t5 v_wide v_up v_low r_page)) (va_runS (As := [.ref n_page]) (rest := []) ⟨hx, hb, hml, hown, hts⟩ (m_X6_openOnes l dC dI k H.size n_page r_page  e10) (va_cwS 1 hts gX6_drawn_X6_openOnes rfl rfl rfl (by decide +kernel) ⟨Nat.le_of_ble_eq_true rfl, Nat.le_of_ble_eq_true rfl⟩) (g_preS hG hP hD hS hA [1] rfl (by decide)) rfl rfl hl.1 rfl (lv_room (Nat.le_of_ble_eq_true rfl)) dX6_drawn_72 ⟨Nat.le_of_ble_eq_true rfl, Nat.le_of_ble_eq_true rfl⟩) hP hD hS hA [1] [0] [0, 1] rfl rfl (by decide) (by decide) rfl (by decide) (fun H locs hP hD hS => ?_)
          refine lv_iload hx hb dX6_drawn_75 (lv_at hl 0 rfl) ?_
          refine lv_aload_n hx hb dX6_drawn_77 rfl (lv_at hl 1 rfl) ?_
          refine va_get (D := (dC, dI)) (ci := 6) (v := .ref n_page) (C := RX6) (T := TX6) (N := 28) hx hb hts hinX6 hown hG.1 hP 0 rfl rfl 7 (by decide) k3 (fun _ h9 => h9) rfl dX6_drawn_78 ?_
          refine lv_iconst (v := (0 : Int32)) hx hb dX6_drawn_81 (by decide) ?_
          obtain ⟨hi11, hm⟩ := chk_some hm
          refine va_iald hx hb hG.1 hP 1 0 rfl rfl hi11 dX6_drawn_82 ?_
          obtain ⟨hz12, hm⟩ := chkD_some hm
          refine g_irem hx hb dX6_drawn_83 hz12 ?_
          obtain ⟨r13, e14, hm⟩ := bnd1_some hm
          refine g_calli (w2 := (wd_6d76fb k n_t n_text n_readPage n_page n_trial n_book n_kept n_isKept n_seenStation n_seenOther n_seenWide n_seenWas n_sines n_at n_column n_gram n_right n_work v_thrown v_textSize v_place v_stations v_readStations v_doings v_seen t5 v_wide v_up v_low r_page)) (va_runS (As := [.int r9, .int (remI t6 (r_page (Int32.toNatClampNeg (0 : Int32))))]) (rest := []) ⟨hx, hb, hml, hown, hts⟩ (m_X6_has l dC dI k H.size  r9 (remI t6 (r_page (Int32.toNatClampNeg (0 : Int32)))) e14) (va_cwS 2 hts gX6_drawn_X6_has rfl rfl rfl (by decide +kernel) ⟨Nat.le_of_ble_eq_true rfl, Nat.le_of_ble_eq_true rfl⟩) (g_preS hG hP hD hS hA [] rfl (by decide)) rfl rfl hl.1 rfl (lv_room (Nat.le_of_ble_eq_true rfl)) dX6_drawn_84 ⟨Nat.le_of_ble_eq_true rfl, Nat.le_of_ble_eq_true rfl⟩) hP hD hS hA [] [0, 1] [0, 1] rfl rfl (by decide) (by decide) rfl (by decide) (fun H locs hP hD hS => ?_)
          refine lv_if_eq (tgt := 152) hx hb dX6_drawn_87 (by decide) (fun c15 => ?_) (fun c15 => ?_)
          · replace hm := ifp c15 hm
            exact J_152 _ _ _ _ _ _ _ _ _ (lv_sub hl [1, 2, 3, 4, 5] rfl) hP hD hS hm
          · replace hm := ifn c15 hm
            refine lv_aload_n hx hb dX6_drawn_90 rfl (lv_at hl 1 rfl) ?_
            refine va_get (D := (dC, dI)) (ci := 6) (v := .ref n_page) (C := RX6) (T := TX6) (N := 28) hx hb hts hinX6 hown hG.1 hP 0 rfl rfl 7 (by decide) k3 (fun _ h9 => h9) rfl dX6_drawn_91 ?_
            refine lv_iload hx hb dX6_drawn_94 (lv_at hl 0 rfl) ?_
            refine lv_aload_n hx hb dX6_drawn_96 rfl (lv_at hl 1 rfl) ?_
            refine va_get (D := (dC, dI)) (ci := 6) (v := .ref n_page) (C := RX6) (T := TX6) (N := 28) hx hb hts hinX6 hown hG.1 hP 0 rfl rfl 7 (by decide) k3 (fun _ h9 => h9) rfl dX6_drawn_97 ?_
            refine lv_iconst (v := (0 : Int32)) hx hb dX6_drawn_100 (by decide) ?_
            obtain ⟨hi16, hm⟩ := chk_some hm
            refine va_iald hx hb hG.1 hP 1 0 rfl rfl hi16 dX6_drawn_101 ?_
            obtain ⟨hz17, hm⟩ := chkD_some hm
            refine g_irem hx hb dX6_drawn_102 hz17 ?_
            refine lv_iconst (v := (4 : Int32)) hx hb dX6_drawn_103 (by decide) ?_
            obtain ⟨r18, e19, hm⟩ := bnd1_some hm
            refine g_calli (w2 := (wd_6d76fb k n_t n_text n_readPage n_page n_trial n_book n_kept n_isKept n_seenStation n_seenOther n_seenWide n_seenWas n_sines n_at n_column n_gram n_right n_work v_thrown v_textSize v_place v_stations v_readStations v_doings v_seen t5 v_wide v_up v_low r_page)) (va_runS (As := [.ref n_page, .int (remI t6 (r_page (Int32.toNatClampNeg (0 : Int32)))), .int (4 : Int32)]) (rest := []) ⟨hx, hb, hml, hown, hts⟩ (m_X6_of l dC dI k H.size n_page r_page (remI t6 (r_page (Int32.toNatClampNeg (0 : Int32)))) (4 : Int32) e19) (va_cwS 3 hts gX6_drawn_X6_of rfl rfl rfl (by decide +kernel) ⟨Nat.le_of_ble_eq_true rfl, Nat.le_of_ble_eq_true rfl⟩) (g_preS hG hP hD hS hA [1] rfl (by decide)) rfl rfl hl.1 rfl (lv_room (Nat.le_of_ble_eq_true rfl)) dX6_drawn_104 ⟨Nat.le_of_ble_eq_true rfl, Nat.le_of_ble_eq_true rfl⟩) hP hD hS hA [1] [0] [0, 1] rfl rfl (by decide) (by decide) rfl (by decide) (fun H locs hP hD hS => ?_)
            refine lv_istore (lv' := [(6, .int r18), (5, .int t6), (0, .ref n_t), (1, .int x1), (2, .int x2), (3, .int x3), (4, .int x4)]) hx hb dX6_drawn_107 hl (by decide) rfl (fun ls hl => ?_)
            refine lv_aload_n hx hb dX6_drawn_109 rfl (lv_at hl 2 rfl) ?_
            refine va_get (D := (dC, dI)) (ci := 6) (v := .ref n_page) (C := RX6) (T := TX6) (N := 28) hx hb hts hinX6 hown hG.1 hP 0 rfl rfl 7 (by decide) k3 (fun _ h9 => h9) rfl dX6_drawn_110 ?_
            refine lv_iload hx hb dX6_drawn_113 (lv_at hl 1 rfl) ?_
            refine lv_aload_n hx hb dX6_drawn_115 rfl (lv_at hl 2 rfl) ?_
            refine va_get (D := (dC, dI)) (ci := 6) (v := .ref n_page) (C := RX6) (T := TX6) (N := 28) hx hb hts hinX6 hown hG.1 hP 0 rfl rfl 7 (by decide) k3 (fun _ h9 => h9) rfl dX6_drawn_116 ?_
            refine lv_iconst (v := (0 : Int32)) hx hb dX6_drawn_119 (by decide) ?_
            obtain ⟨hi20, hm⟩ := chk_some hm
            refine va_iald hx hb hG.1 hP 1 0 rfl rfl hi20 dX6_drawn_120 ?_
            obtain ⟨hz21, hm⟩ := chkD_some hm
            refine g_irem hx hb dX6_drawn_121 hz21 ?_
            refine lv_iconst (v := (5 : Int32)) hx hb dX6_drawn_122 (by decide) ?_
            obtain ⟨r22, e23, hm⟩ := bnd1_some hm
            refine g_calli (w2 := (wd_6d76fb k n_t n_text n_readPage n_page n_trial n_book n_kept n_isKept n_seenStation n_seenOther n_seenWide n_seenWas n_sines n_at n_column n_gram n_right n_work v_thrown v_textSize v_place v_stations v_readStations v_doings v_seen t5 v_wide v_up v_low r_page)) (va_runS (As := [.ref n_page, .int (remI t6 (r_page (Int32.toNatClampNeg (0 : Int32)))), .int (5 : Int32)]) (rest := []) ⟨hx, hb, hml, hown, hts⟩ (m_X6_of l dC dI k H.size n_page r_page (remI t6 (r_page (Int32.toNatClampNeg (0 : Int32)))) (5 : Int32) e23) (va_cwS 3 hts gX6_drawn_X6_of rfl rfl rfl (by decide +kernel) ⟨Nat.le_of_ble_eq_true rfl, Nat.le_of_ble_eq_true rfl⟩) (g_preS hG hP hD hS hA [1] rfl (by decide)) rfl rfl hl.1 rfl (lv_room (Nat.le_of_ble_eq_true rfl)) dX6_drawn_123 ⟨Nat.le_of_ble_eq_true rfl, Nat.le_of_ble_eq_true rfl⟩) hP hD hS hA [1] [0] [0, 1] rfl rfl (by decide) (by decide) rfl (by decide) (fun H locs hP hD hS => ?_)
            refine lv_istore (lv' := [(7, .int r22), (6, .int r18), (5, .int t6), (0, .ref n_t), (1, .int x1), (2, .int x2), (3, .int x3), (4, .int x4)]) hx hb dX6_drawn_126 hl (by decide) rfl (fun ls hl => ?_)
            refine lv_iload_n hx hb dX6_drawn_128 rfl (lv_at hl 5 rfl) ?_
            refine lv_iload hx hb dX6_drawn_129 (lv_at hl 1 rfl) ?_
            refine lv_icmp_ne (tgt := 139) hx hb dX6_drawn_131 (by decide) (fun c24 => ?_) (fun c24 => ?_)
            · replace hm := ifn c24 hm
              refine lv_iload_n hx hb dX6_drawn_139 rfl (lv_at hl 5 rfl) ?_
              refine lv_iload hx hb dX6_drawn_140 (lv_at hl 0 rfl) ?_
              refine lv_icmp_ne (tgt := 150) hx hb dX6_drawn_142 (by decide) (fun c25 => ?_) (fun c25 => ?_)
              · replace hm := ifn c25 hm
                refine lv_iload_n hx hb dX6_drawn_150 rfl (lv_at hl 5 rfl) ?_
                exact J_151 _ _ _ _ _ _ _ _ _ (lv_sub hl [3, 4, 6, 7] rfl) hP hD hS hm
              · replace hm := ifp c25 hm
                refine lv_iload hx hb dX6_drawn_145 (lv_at hl 1 rfl) ?_
                refine lv_goto (tgt := 151) hx hb dX6_drawn_147 (by decide) ?_
                exact J_151 _ _ _ _ _ _ _ _ _ (lv_sub hl [3, 4, 6, 7] rfl) hP hD hS hm
            · replace hm := ifp c24 hm
              refine lv_iload hx hb dX6_drawn_134 (lv_at hl 0 rfl) ?_
              refine lv_goto (tgt := 151) hx hb dX6_drawn_136 (by decide) ?_
              exact J_151 _ _ _ _ _ _ _ _ _ (lv_sub hl [3, 4, 6, 7] rfl) hP hD hS hm
  unfold f_X6_drawn at hm
  refine lv_aload_n hx hb dX6_drawn_0 rfl (lv_at hl 0 rfl) ?_
  refine lv_iconst (v := (0 : Int32)) hx hb dX6_drawn_1 (by decide) ?_
  refine va_put (D := (dC, dI)) (ci := 6) (v := .int (0 : Int32)) (ty := .int) (C := RX6) (T := TX6) (N := 28) hx hb hts hinX6 tyX6 tyX6_ok nmX6 hown hG.1 hP hD hS 0 rfl rfl 0 (by decide) k4 (fun _ h9 => h9) rfl (by decide +kernel) rfl rfl (Nat.le_of_ble_eq_true rfl) dX6_drawn_2 (fun H locs hP hD hS => ?_)
  replace hP : va_P (dC, dI) vwCl (wd_6d76fb k n_t n_text n_readPage n_page n_trial n_book n_kept n_isKept n_seenStation n_seenOther n_seenWide n_seenWas n_sines n_at n_column n_gram n_right n_work (0 : Int32) v_textSize v_place v_stations v_readStations v_doings v_seen v_seed v_wide v_up v_low r_page) H := hP
  replace hD : va_D A (wd_6d76fb k n_t n_text n_readPage n_page n_trial n_book n_kept n_isKept n_seenStation n_seenOther n_seenWide n_seenWas n_sines n_at n_column n_gram n_right n_work (0 : Int32) v_textSize v_place v_stations v_readStations v_doings v_seen v_seed v_wide v_up v_low r_page) := hD
  refine lv_iload_n hx hb dX6_drawn_5 rfl (lv_at hl 1 rfl) ?_
  refine g_i2l hx hb dX6_drawn_6 ?_
  refine lv_lconst (v := (1 : Int64)) hx hb dX6_drawn_7 (by decide) ?_
  refine lv_ldc2 (v := (40 : Int64)) hx hb hown k5 dX6_drawn_8 ?_
  obtain ⟨r26, e27, hm⟩ := bnd1_some hm
  refine g_calli (w2 := (wd_6d76fb k n_t n_text n_readPage n_page n_trial n_book n_kept n_isKept n_seenStation n_seenOther n_seenWide n_seenWas n_sines n_at n_column n_gram n_right n_work (0 : Int32) v_textSize v_place v_stations v_readStations v_doings v_seen v_seed v_wide v_up v_low r_page)) (va_runS (As := [.long (Int32.toInt64 x1), .long (1 : Int64), .long (40 : Int64)]) (rest := []) ⟨hx, hb, hml, hown, hts⟩ (m_X6_in l dC dI k H.size  (Int32.toInt64 x1) (1 : Int64) (40 : Int64) e27) (va_cwS 3 hts gX6_drawn_X6_in rfl rfl rfl (by decide +kernel) ⟨Nat.le_of_ble_eq_true rfl, Nat.le_of_ble_eq_true rfl⟩) (g_preS hG hP hD hS hA [] rfl (by decide)) rfl rfl hl.1 rfl (lv_room (Nat.le_of_ble_eq_true rfl)) dX6_drawn_11 ⟨Nat.le_of_ble_eq_true rfl, Nat.le_of_ble_eq_true rfl⟩) hP hD hS hA [] [0, 1] [0, 1] rfl rfl (by decide) (by decide) rfl (by decide) (fun H locs hP hD hS => ?_)
  refine lv_if_ne (tgt := 20) hx hb dX6_drawn_14 (by decide) (fun c28 => ?_) (fun c28 => ?_)
  · replace hm := ifn c28 hm
    refine lv_iconst (v := (0 : Int32)) hx hb dX6_drawn_20 (by decide) ?_
    refine lv_istore_n (lv' := [(2, .int (0 : Int32)), (0, .ref n_t), (1, .int x1)]) hx hb dX6_drawn_21 rfl hl (by decide) rfl (fun ls hl => ?_)
    refine lv_iconst (v := (0 : Int32)) hx hb dX6_drawn_22 (by decide) ?_
    refine lv_istore_n (lv' := [(3, .int (0 : Int32)), (2, .int (0 : Int32)), (0, .ref n_t), (1, .int x1)]) hx hb dX6_drawn_23 rfl hl (by decide) rfl (fun ls hl => ?_)
    refine lv_iconst (v := (0 : Int32)) hx hb dX6_drawn_24 (by decide) ?_
    refine lv_istore (lv' := [(4, .int (0 : Int32)), (3, .int (0 : Int32)), (2, .int (0 : Int32)), (0, .ref n_t), (1, .int x1)]) hx hb dX6_drawn_25 hl (by decide) rfl (fun ls hl => ?_)
    exact L_27 F _ _ _ _ _ _ _ _ _ (lv_sub hl [3, 4, 2, 1, 0] rfl) hP hD hS hm
  · replace hm := ifp c28 hm
    refine lv_bipush (v := (-2 : Int32)) hx hb dX6_drawn_17 (by decide) ?_
    exact RET _ _ _ _ _ _ _ dX6_drawn_19 hm hP hD hS
set_option maxRecDepth 100000 in
theorem m_X6_drawn (l : Launch) (dC : Nat → ClassId) (dI : Nat → Nat → Nat) (k : Nat → ClassId) (F : Nat) (sz : Nat) (n_t n_text n_readPage n_page n_trial n_book n_kept n_isKept n_seenStation n_seenOther n_seenWide n_seenWas n_sines n_at n_column n_gram n_right n_work : Nat) (v_thrown : Int32) (v_textSize : Int32) (v_place : Int32) (v_stations : Int32) (v_readStations : Int32) (v_doings : Int32) (v_seen : Int32) (v_seed : Int64) (v_wide : Int32) (v_up : Int64) (v_low : Int64) (r_page : Nat → Int32) (x1 : Int32) {o_r : Int32} {o_v_thrown : (Int32)} {o_v_seed : (Int64)} (hm : f_X6_drawn F x1 v_thrown v_seed r_page = some (o_r, o_v_thrown, o_v_seed)) : Met l yX6_drawn wsX6_drawn rm_X6_drawn (gPre dC dI k [.ref n_t, .int x1] sz (wd_6d76fb k n_t n_text n_readPage n_page n_trial n_book n_kept n_isKept n_seenStation n_seenOther n_seenWide n_seenWas n_sines n_at n_column n_gram n_right n_work v_thrown v_textSize v_place v_stations v_readStations v_doings v_seen v_seed v_wide v_up v_low r_page)) (gQI dC dI (va_A (wd_6d76fb k n_t n_text n_readPage n_page n_trial n_book n_kept n_isKept n_seenStation n_seenOther n_seenWide n_seenWas n_sines n_at n_column n_gram n_right n_work v_thrown v_textSize v_place v_stations v_readStations v_doings v_seen v_seed v_wide v_up v_low r_page) sz) o_r (wd_6d76fb k n_t n_text n_readPage n_page n_trial n_book n_kept n_isKept n_seenStation n_seenOther n_seenWide n_seenWas n_sines n_at n_column n_gram n_right n_work o_v_thrown v_textSize v_place v_stations v_readStations v_doings v_seen o_v_seed v_wide v_up v_low r_page)) 0 0 (va_A (wd_6d76fb k n_t n_text n_readPage n_page n_trial n_book n_kept n_isKept n_seenStation n_seenOther n_seenWide n_seenWas n_sines n_at n_column n_gram n_right n_work v_thrown v_textSize v_place v_stations v_readStations v_doings v_seen v_seed v_wide v_up v_low r_page) sz) := by
  refine g_entry (cc := cX6_drawn) (maxL := 8) (ret := (some .int)) (lv := [(0, .ref n_t), (1, .int x1)]) (by decide +kernel) rfl (Nat.le_of_ble_eq_true rfl) rfl (fun p e s m below meth c ls hx hb hr hml hts hown hlk hnm hsz hG hA hP hD hS hl => ?_)
  exact k_X6_drawn hx hb hml hts hown hG hA F n_t n_text n_readPage n_page n_trial n_book n_kept n_isKept n_seenStation n_seenOther n_seenWide n_seenWas n_sines n_at n_column n_gram n_right n_work v_thrown v_textSize v_place v_stations v_readStations v_doings v_seen v_seed v_wide v_up v_low r_page x1 o_r o_v_thrown o_v_seed (fun pc H locs ls v q_v_thrown q_v_seed hd ho hP hD hS => by cases ho; exact g_ireti hx hb hr hlk hP hD hS hd) s.heap [] ls hl hP hD hS hm
end
section
set_option maxHeartbeats 4000000 in
set_option maxRecDepth 100000 in
theorem k_X6_keep {p : Program} {l : Launch} {e : Env} {s : State} {m : MethodId} {args : Array Value} {below : List Frame} {meth : Method} {c : Code} {A : Nat → Prop} {Q : State → Prop} {dC : Nat → ClassId} {dI : Nat → Nat → Nat} {k : Nat → ClassId} (hx : p.tables.exec = Jvm.exec) (hb : c.code = cX6_keep) (hml : c.maxLocals = 3) (hts : ∀ w ∈ wsX6_keep, w.before args s = true) (hown : s.vm.findClass RX6 = some m.cls) (hG : gK dC dI k A s) (hA : ∀ q : Nat, s.heap.size ≤ q → A q) (F : Nat) (n_t n_text n_readPage n_page n_trial n_book n_kept n_isKept n_seenStation n_seenOther n_seenWide n_seenWas n_sines n_at n_column n_gram n_right n_work : Nat) (v_thrown : Int32) (v_textSize : Int32) (v_place : Int32) (v_stations : Int32) (v_readStations : Int32) (v_doings : Int32) (v_seen : Int32) (v_seed : Int64) (v_wide : Int32) (v_up : Int64) (v_low : Int64) (r_page : Nat → Int32) (r_kept : Nat → Int32) (r_isKept : Nat → Int32) (x1 : Int32) (o_r : Int32) (o_v_thrown : (Int32)) (o_r_kept : (Nat → Int32)) (o_r_isKept : (Nat → Int32)) (RET : ∀ (pc : Nat) (H : Heap) (locs : List Loc) (ls : Array Slot) (v : Int32) (q_v_thrown : Int32) (q_r_kept : Nat → Int32) (q_r_isKept : Nat → Int32), decode cX6_keep pc = .ok (.ireturn, 1) → some (v, q_v_thrown, q_r_kept, q_r_isKept) = some (o_r, o_v_thrown, o_r_kept, o_r_isKept) → va_P (dC, dI) vwCl (wd_02ee1d k n_t n_text n_readPage n_page n_trial n_book n_kept n_isKept n_seenStation n_seenOther n_seenWide n_seenWas n_sines n_at n_column n_gram n_right n_work q_v_thrown v_textSize v_place v_stations v_readStations v_doings v_seen v_seed v_wide v_up v_low r_page q_r_kept q_r_isKept) H → va_D A (wd_02ee1d k n_t n_text n_readPage n_page n_trial n_book n_kept n_isKept n_seenStation n_seenOther n_seenWide n_seenWas n_sines n_at n_column n_gram n_right n_work q_v_thrown v_textSize v_place v_stations v_readStations v_doings v_seen v_seed v_wide v_up v_low r_page q_r_kept q_r_isKept) → va_S A s.heap H locs → W p l e rm_X6_keep s m args below meth c H locs 0 0 Q (F0 m pc ls [.int v])) (H : Heap) (locs : List Loc) (ls : Array Slot) (hl : lv_has ls 3 [(0, .ref n_t), (1, .int x1)]) (hP : va_P (dC, dI) vwCl (wd_02ee1d k n_t n_text n_readPage n_page n_trial n_book n_kept n_isKept n_seenStation n_seenOther n_seenWide n_seenWas n_sines n_at n_column n_gram n_right n_work v_thrown v_textSize v_place v_stations v_readStations v_doings v_seen v_seed v_wide v_up v_low r_page r_kept r_isKept) H) (hD : va_D A (wd_02ee1d k n_t n_text n_readPage n_page n_trial n_book n_kept n_isKept n_seenStation n_seenOther n_seenWide n_seenWas n_sines n_at n_column n_gram n_right n_work v_thrown v_textSize v_place v_stations v_readStations v_doings v_seen v_seed v_wide v_up v_low r_page r_kept r_isKept)) (hS : va_S A s.heap H locs) (hm : f_X6_keep F x1 v_thrown r_page r_kept r_isKept = some (o_r, o_v_thrown, o_r_kept, o_r_isKept)) : W p l e rm_X6_keep s m args below meth c H locs 0 0 Q (F0 m 0 ls []) := by
  have hinX6 : ∀ w ∈ u_ws RX6 TX6 28, w ∈ wsX6_keep := by decide +kernel
  have k0 := hts (.fieldLink RX6 20 "CaveLegsModel" "page" "[I") (by decide +kernel)
  have k1 := hts (.fieldLink RX6 29 "CaveLegsModel" "kept" "[I") (by decide +kernel)
  have k2 := hts (.fieldLink RX6 67 "CaveLegsModel" "thrown" "I") (by decide +kernel)
  have k3 := hts (.fieldLink RX6 32 "CaveLegsModel" "isKept" "[Z") (by decide +kernel)
  have L_26 : ∀ (n26 : Nat) (v_thrown : Int32) (r_kept : Nat → Int32) (r_isKept : Nat → Int32) (x1 : Int32) (x2 : Int32) (H : Heap) (locs : List Loc) (ls : Array Slot), lv_has ls 3 [(0, .ref n_t), (1, .int x1), (2, .int x2)] → va_P (dC, dI) vwCl (wd_02ee1d k n_t n_text n_readPage n_page n_trial n_book n_kept n_isKept n_seenStation n_seenOther n_seenWide n_seenWas n_sines n_at n_column n_gram n_right n_work v_thrown v_textSize v_place v_stations v_readStations v_doings v_seen v_seed v_wide v_up v_low r_page r_kept r_isKept) H → va_D A (wd_02ee1d k n_t n_text n_readPage n_page n_trial n_book n_kept n_isKept n_seenStation n_seenOther n_seenWide n_seenWas n_sines n_at n_column n_gram n_right n_work v_thrown v_textSize v_place v_stations v_readStations v_doings v_seen v_seed v_wide v_up v_low r_page r_kept r_isKept) → va_S A s.heap H locs → f_X6_keep_L26 F r_page n26 v_thrown r_kept r_isKept x1 x2 = some (o_r, o_v_thrown, o_r_kept, o_r_isKept) → W p l e rm_X6_keep s m args below meth c H locs 0 0 Q (F0 m 26 ls []) := by
    intro n26
    induction n26 with
    | zero =>
      intro v_thrown r_kept r_isKept x1 x2 H locs ls hl hP hD hS hm
      exact non_some hm
    | succ n26 ih26 =>
      intro v_thrown r_kept r_isKept x1 x2 H locs ls hl hP hD hS hm
      replace hm : f_X6_keep_B26 F r_page (f_X6_keep_L26 F r_page n26) v_thrown r_kept r_isKept x1 x2 = some (o_r, o_v_thrown, o_r_kept, o_r_isKept) := hm
      unfold f_X6_keep_B26 at hm
      refine lv_iload_n hx hb dX6_keep_26 rfl (lv_at hl 2 rfl) ?_
      refine lv_bipush (v := (50 : Int32)) hx hb dX6_keep_27 (by decide) ?_
      refine lv_icmp_ge (tgt := 55) hx hb dX6_keep_29 (by decide) (fun c1 => ?_) (fun c1 => ?_)
      · replace hm := ifp c1 hm
        refine lv_aload_n hx hb dX6_keep_55 rfl (lv_at hl 0 rfl) ?_
        refine va_get (D := (dC, dI)) (ci := 6) (v := .ref n_page) (C := RX6) (T := TX6) (N := 28) hx hb hts hinX6 hown hG.1 hP 0 rfl rfl 7 (by decide) k0 (fun _ h9 => h9) rfl dX6_keep_56 ?_
        refine lv_iconst (v := (0 : Int32)) hx hb dX6_keep_59 (by decide) ?_
        obtain ⟨hi2, hm⟩ := chk_some hm
        refine va_iald hx hb hG.1 hP 1 0 rfl rfl hi2 dX6_keep_60 ?_
        exact RET _ _ _ _ _ _ _ _ dX6_keep_61 hm hP hD hS
      · replace hm := ifn c1 hm
        refine lv_aload_n hx hb dX6_keep_32 rfl (lv_at hl 0 rfl) ?_
        refine va_get (D := (dC, dI)) (ci := 6) (v := .ref n_kept) (C := RX6) (T := TX6) (N := 28) hx hb hts hinX6 hown hG.1 hP 0 rfl rfl 11 (by decide) k1 (fun _ h9 => h9) rfl dX6_keep_33 ?_
        refine lv_bipush (v := (50 : Int32)) hx hb dX6_keep_36 (by decide) ?_
        refine lv_iload_n hx hb dX6_keep_38 rfl (lv_at hl 1 rfl) ?_
        refine lv_imul hx hb dX6_keep_39 ?_
        refine lv_iload_n hx hb dX6_keep_40 rfl (lv_at hl 2 rfl) ?_
        refine lv_iadd hx hb dX6_keep_41 ?_
        refine lv_aload_n hx hb dX6_keep_42 rfl (lv_at hl 0 rfl) ?_
        refine va_get (D := (dC, dI)) (ci := 6) (v := .ref n_page) (C := RX6) (T := TX6) (N := 28) hx hb hts hinX6 hown hG.1 hP 0 rfl rfl 7 (by decide) k0 (fun _ h9 => h9) rfl dX6_keep_43 ?_
        refine lv_iload_n hx hb dX6_keep_46 rfl (lv_at hl 2 rfl) ?_
        obtain ⟨hi3, hm⟩ := chk_some hm
        refine va_iald hx hb hG.1 hP 1 0 rfl rfl hi3 dX6_keep_47 ?_
        refine lv_topi (fun t4 et4 => ?_)
        replace hm := (nmd_eq et4).trans hm
        obtain ⟨hi5, hm⟩ := chk_some hm
        refine va_iast hx hb hG.1 hP hD hS 2 0 rfl rfl hi5 dX6_keep_48 (fun H locs hP hD hS => ?_)
        replace hP : va_P (dC, dI) vwCl (wd_02ee1d k n_t n_text n_readPage n_page n_trial n_book n_kept n_isKept n_seenStation n_seenOther n_seenWide n_seenWas n_sines n_at n_column n_gram n_right n_work v_thrown v_textSize v_place v_stations v_readStations v_doings v_seen v_seed v_wide v_up v_low r_page (upd r_kept (Int32.toNatClampNeg (((50 : Int32) * x1) + x2)) t4) r_isKept) H := hP
        replace hD : va_D A (wd_02ee1d k n_t n_text n_readPage n_page n_trial n_book n_kept n_isKept n_seenStation n_seenOther n_seenWide n_seenWas n_sines n_at n_column n_gram n_right n_work v_thrown v_textSize v_place v_stations v_readStations v_doings v_seen v_seed v_wide v_up v_low r_page (upd r_kept (Int32.toNatClampNeg (((50 : Int32) * x1) + x2)) t4) r_isKept) := hD
        obtain ⟨t6, et6⟩ : ∃ y : Int32, y = x2 + (1 : Int32) := ⟨_, rfl⟩
        replace hm := (nmd_eq et6).trans hm
        refine lv_iinc (v := t6) (lv' := [(2, .int t6), (0, .ref n_t), (1, .int x1)]) hx hb dX6_keep_49 hl (k := 2) rfl (by rw [et6]; rfl) (by decide) rfl (fun ls hl => ?_)
        refine lv_goto (tgt := 26) hx hb dX6_keep_52 (by decide) ?_
        exact ih26 _ _ _ _ _ _ _ _ (lv_sub hl [1, 2, 0] rfl) hP hD hS hm
  unfold f_X6_keep at hm
  refine lv_aload_n hx hb dX6_keep_0 rfl (lv_at hl 0 rfl) ?_
  refine lv_iconst (v := (0 : Int32)) hx hb dX6_keep_1 (by decide) ?_
  refine va_put (D := (dC, dI)) (ci := 6) (v := .int (0 : Int32)) (ty := .int) (C := RX6) (T := TX6) (N := 28) hx hb hts hinX6 tyX6 tyX6_ok nmX6 hown hG.1 hP hD hS 0 rfl rfl 0 (by decide) k2 (fun _ h9 => h9) rfl (by decide +kernel) rfl rfl (Nat.le_of_ble_eq_true rfl) dX6_keep_2 (fun H locs hP hD hS => ?_)
  replace hP : va_P (dC, dI) vwCl (wd_02ee1d k n_t n_text n_readPage n_page n_trial n_book n_kept n_isKept n_seenStation n_seenOther n_seenWide n_seenWas n_sines n_at n_column n_gram n_right n_work (0 : Int32) v_textSize v_place v_stations v_readStations v_doings v_seen v_seed v_wide v_up v_low r_page r_kept r_isKept) H := hP
  replace hD : va_D A (wd_02ee1d k n_t n_text n_readPage n_page n_trial n_book n_kept n_isKept n_seenStation n_seenOther n_seenWide n_seenWas n_sines n_at n_column n_gram n_right n_work (0 : Int32) v_textSize v_place v_stations v_readStations v_doings v_seen v_seed v_wide v_up v_low r_page r_kept r_isKept) := hD
  refine lv_iload_n hx hb dX6_keep_5 rfl (lv_at hl 1 rfl) ?_
  refine g_i2l hx hb dX6_keep_6 ?_
  refine lv_lconst (v := (0 : Int64)) hx hb dX6_keep_7 (by decide) ?_
  refine lv_lconst (v := (1 : Int64)) hx hb dX6_keep_8 (by decide) ?_
  obtain ⟨r7, e8, hm⟩ := bnd1_some hm
  refine g_calli (w2 := (wd_02ee1d k n_t n_text n_readPage n_page n_trial n_book n_kept n_isKept n_seenStation n_seenOther n_seenWide n_seenWas n_sines n_at n_column n_gram n_right n_work (0 : Int32) v_textSize v_place v_stations v_readStations v_doings v_seen v_seed v_wide v_up v_low r_page r_kept r_isKept)) (va_runS (As := [.long (Int32.toInt64 x1), .long (0 : Int64), .long (1 : Int64)]) (rest := []) ⟨hx, hb, hml, hown, hts⟩ (m_X6_in l dC dI k H.size  (Int32.toInt64 x1) (0 : Int64) (1 : Int64) e8) (va_cwS 3 hts gX6_keep_X6_in rfl rfl rfl (by decide +kernel) ⟨Nat.le_of_ble_eq_true rfl, Nat.le_of_ble_eq_true rfl⟩) (g_preS hG hP hD hS hA [] rfl (by decide)) rfl rfl hl.1 rfl (lv_room (Nat.le_of_ble_eq_true rfl)) dX6_keep_9 ⟨Nat.le_of_ble_eq_true rfl, Nat.le_of_ble_eq_true rfl⟩) hP hD hS hA [] [0, 1, 2, 3] [0, 1, 2, 3] rfl rfl (by decide) (by decide) rfl (by decide) (fun H locs hP hD hS => ?_)
  refine lv_if_ne (tgt := 17) hx hb dX6_keep_12 (by decide) (fun c9 => ?_) (fun c9 => ?_)
  · replace hm := ifn c9 hm
    refine lv_aload_n hx hb dX6_keep_17 rfl (lv_at hl 0 rfl) ?_
    refine va_get (D := (dC, dI)) (ci := 6) (v := .ref n_isKept) (C := RX6) (T := TX6) (N := 28) hx hb hts hinX6 hown hG.1 hP 0 rfl rfl 12 (by decide) k3 (fun _ h9 => h9) rfl dX6_keep_18 ?_
    refine lv_iload_n hx hb dX6_keep_21 rfl (lv_at hl 1 rfl) ?_
    refine lv_iconst (v := (1 : Int32)) hx hb dX6_keep_22 (by decide) ?_
    obtain ⟨hi10, hm⟩ := chk_some hm
    refine va_zast hx hb hG.1 hP hD hS 3 3 rfl rfl hi10 dX6_keep_23 (fun H locs hP hD hS => ?_)
    replace hP : va_P (dC, dI) vwCl (wd_02ee1d k n_t n_text n_readPage n_page n_trial n_book n_kept n_isKept n_seenStation n_seenOther n_seenWide n_seenWas n_sines n_at n_column n_gram n_right n_work (0 : Int32) v_textSize v_place v_stations v_readStations v_doings v_seen v_seed v_wide v_up v_low r_page r_kept (upd r_isKept (Int32.toNatClampNeg x1) (vp_nar .boolean (1 : Int32)))) H := hP
    replace hD : va_D A (wd_02ee1d k n_t n_text n_readPage n_page n_trial n_book n_kept n_isKept n_seenStation n_seenOther n_seenWide n_seenWas n_sines n_at n_column n_gram n_right n_work (0 : Int32) v_textSize v_place v_stations v_readStations v_doings v_seen v_seed v_wide v_up v_low r_page r_kept (upd r_isKept (Int32.toNatClampNeg x1) (vp_nar .boolean (1 : Int32)))) := hD
    refine lv_iconst (v := (0 : Int32)) hx hb dX6_keep_24 (by decide) ?_
    refine lv_istore_n (lv' := [(2, .int (0 : Int32)), (0, .ref n_t), (1, .int x1)]) hx hb dX6_keep_25 rfl hl (by decide) rfl (fun ls hl => ?_)
    exact L_26 F _ _ _ _ _ _ _ _ (lv_sub hl [1, 2, 0] rfl) hP hD hS hm
  · replace hm := ifp c9 hm
    refine lv_iconst (v := (-1 : Int32)) hx hb dX6_keep_15 (by decide) ?_
    exact RET _ _ _ _ _ _ _ _ dX6_keep_16 hm hP hD hS
set_option maxRecDepth 100000 in
theorem m_X6_keep (l : Launch) (dC : Nat → ClassId) (dI : Nat → Nat → Nat) (k : Nat → ClassId) (F : Nat) (sz : Nat) (n_t n_text n_readPage n_page n_trial n_book n_kept n_isKept n_seenStation n_seenOther n_seenWide n_seenWas n_sines n_at n_column n_gram n_right n_work : Nat) (v_thrown : Int32) (v_textSize : Int32) (v_place : Int32) (v_stations : Int32) (v_readStations : Int32) (v_doings : Int32) (v_seen : Int32) (v_seed : Int64) (v_wide : Int32) (v_up : Int64) (v_low : Int64) (r_page : Nat → Int32) (r_kept : Nat → Int32) (r_isKept : Nat → Int32) (x1 : Int32) {o_r : Int32} {o_v_thrown : (Int32)} {o_r_kept : (Nat → Int32)} {o_r_isKept : (Nat → Int32)} (hm : f_X6_keep F x1 v_thrown r_page r_kept r_isKept = some (o_r, o_v_thrown, o_r_kept, o_r_isKept)) : Met l yX6_keep wsX6_keep rm_X6_keep (gPre dC dI k [.ref n_t, .int x1] sz (wd_02ee1d k n_t n_text n_readPage n_page n_trial n_book n_kept n_isKept n_seenStation n_seenOther n_seenWide n_seenWas n_sines n_at n_column n_gram n_right n_work v_thrown v_textSize v_place v_stations v_readStations v_doings v_seen v_seed v_wide v_up v_low r_page r_kept r_isKept)) (gQI dC dI (va_A (wd_02ee1d k n_t n_text n_readPage n_page n_trial n_book n_kept n_isKept n_seenStation n_seenOther n_seenWide n_seenWas n_sines n_at n_column n_gram n_right n_work v_thrown v_textSize v_place v_stations v_readStations v_doings v_seen v_seed v_wide v_up v_low r_page r_kept r_isKept) sz) o_r (wd_02ee1d k n_t n_text n_readPage n_page n_trial n_book n_kept n_isKept n_seenStation n_seenOther n_seenWide n_seenWas n_sines n_at n_column n_gram n_right n_work o_v_thrown v_textSize v_place v_stations v_readStations v_doings v_seen v_seed v_wide v_up v_low r_page o_r_kept o_r_isKept)) 0 0 (va_A (wd_02ee1d k n_t n_text n_readPage n_page n_trial n_book n_kept n_isKept n_seenStation n_seenOther n_seenWide n_seenWas n_sines n_at n_column n_gram n_right n_work v_thrown v_textSize v_place v_stations v_readStations v_doings v_seen v_seed v_wide v_up v_low r_page r_kept r_isKept) sz) := by
  refine g_entry (cc := cX6_keep) (maxL := 3) (ret := (some .int)) (lv := [(0, .ref n_t), (1, .int x1)]) (by decide +kernel) rfl (Nat.le_of_ble_eq_true rfl) rfl (fun p e s m below meth c ls hx hb hr hml hts hown hlk hnm hsz hG hA hP hD hS hl => ?_)
  exact k_X6_keep hx hb hml hts hown hG hA F n_t n_text n_readPage n_page n_trial n_book n_kept n_isKept n_seenStation n_seenOther n_seenWide n_seenWas n_sines n_at n_column n_gram n_right n_work v_thrown v_textSize v_place v_stations v_readStations v_doings v_seen v_seed v_wide v_up v_low r_page r_kept r_isKept x1 o_r o_v_thrown o_r_kept o_r_isKept (fun pc H locs ls v q_v_thrown q_r_kept q_r_isKept hd ho hP hD hS => by cases ho; exact g_ireti hx hb hr hlk hP hD hS hd) s.heap [] ls hl hP hD hS hm
end
section
set_option maxHeartbeats 4000000 in
set_option maxRecDepth 100000 in
theorem k_X6_again {p : Program} {l : Launch} {e : Env} {s : State} {m : MethodId} {args : Array Value} {below : List Frame} {meth : Method} {c : Code} {A : Nat → Prop} {Q : State → Prop} {dC : Nat → ClassId} {dI : Nat → Nat → Nat} {k : Nat → ClassId} (hx : p.tables.exec = Jvm.exec) (hb : c.code = cX6_again) (hml : c.maxLocals = 3) (hts : ∀ w ∈ wsX6_again, w.before args s = true) (hown : s.vm.findClass RX6 = some m.cls) (hG : gK dC dI k A s) (hA : ∀ q : Nat, s.heap.size ≤ q → A q) (F : Nat) (n_t n_text n_readPage n_page n_trial n_book n_kept n_isKept n_seenStation n_seenOther n_seenWide n_seenWas n_sines n_at n_column n_gram n_right n_work : Nat) (v_thrown : Int32) (v_textSize : Int32) (v_place : Int32) (v_stations : Int32) (v_readStations : Int32) (v_doings : Int32) (v_seen : Int32) (v_seed : Int64) (v_wide : Int32) (v_up : Int64) (v_low : Int64) (r_page : Nat → Int32) (r_kept : Nat → Int32) (r_isKept : Nat → Int32) (x1 : Int32) (o_r : Int32) (o_v_thrown : (Int32)) (o_v_doings : (Int32)) (o_r_page : (Nat → Int32)) (RET : ∀ (pc : Nat) (H : Heap) (locs : List Loc) (ls : Array Slot) (v : Int32) (q_v_thrown : Int32) (q_v_doings : Int32) (q_r_page : Nat → Int32), decode cX6_again pc = .ok (.ireturn, 1) → some (v, q_v_thrown, q_v_doings, q_r_page) = some (o_r, o_v_thrown, o_v_doings, o_r_page) → va_P (dC, dI) vwCl (wd_02ee1d k n_t n_text n_readPage n_page n_trial n_book n_kept n_isKept n_seenStation n_seenOther n_seenWide n_seenWas n_sines n_at n_column n_gram n_right n_work q_v_thrown v_textSize v_place v_stations v_readStations q_v_doings v_seen v_seed v_wide v_up v_low q_r_page r_kept r_isKept) H → va_D A (wd_02ee1d k n_t n_text n_readPage n_page n_trial n_book n_kept n_isKept n_seenStation n_seenOther n_seenWide n_seenWas n_sines n_at n_column n_gram n_right n_work q_v_thrown v_textSize v_place v_stations v_readStations q_v_doings v_seen v_seed v_wide v_up v_low q_r_page r_kept r_isKept) → va_S A s.heap H locs → W p l e rm_X6_again s m args below meth c H locs 0 0 Q (F0 m pc ls [.int v])) (H : Heap) (locs : List Loc) (ls : Array Slot) (hl : lv_has ls 3 [(0, .ref n_t), (1, .int x1)]) (hP : va_P (dC, dI) vwCl (wd_02ee1d k n_t n_text n_readPage n_page n_trial n_book n_kept n_isKept n_seenStation n_seenOther n_seenWide n_seenWas n_sines n_at n_column n_gram n_right n_work v_thrown v_textSize v_place v_stations v_readStations v_doings v_seen v_seed v_wide v_up v_low r_page r_kept r_isKept) H) (hD : va_D A (wd_02ee1d k n_t n_text n_readPage n_page n_trial n_book n_kept n_isKept n_seenStation n_seenOther n_seenWide n_seenWas n_sines n_at n_column n_gram n_right n_work v_thrown v_textSize v_place v_stations v_readStations v_doings v_seen v_seed v_wide v_up v_low r_page r_kept r_isKept)) (hS : va_S A s.heap H locs) (hm : f_X6_again F x1 v_thrown v_doings r_page r_kept r_isKept = some (o_r, o_v_thrown, o_v_doings, o_r_page)) : W p l e rm_X6_again s m args below meth c H locs 0 0 Q (F0 m 0 ls []) := by
  have hinX6 : ∀ w ∈ u_ws RX6 TX6 28, w ∈ wsX6_again := by decide +kernel
  have k0 := hts (.fieldLink RX6 100 "CaveLegsModel" "doings" "I") (by decide +kernel)
  have k1 := hts (.fieldLink RX6 20 "CaveLegsModel" "page" "[I") (by decide +kernel)
  have k2 := hts (.fieldLink RX6 29 "CaveLegsModel" "kept" "[I") (by decide +kernel)
  have k3 := hts (.fieldLink RX6 67 "CaveLegsModel" "thrown" "I") (by decide +kernel)
  have k4 := hts (.fieldLink RX6 32 "CaveLegsModel" "isKept" "[Z") (by decide +kernel)
  have L_31 : ∀ (n31 : Nat) (v_thrown : Int32) (v_doings : Int32) (r_page : Nat → Int32) (x1 : Int32) (x2 : Int32) (H : Heap) (locs : List Loc) (ls : Array Slot), lv_has ls 3 [(0, .ref n_t), (1, .int x1), (2, .int x2)] → va_P (dC, dI) vwCl (wd_02ee1d k n_t n_text n_readPage n_page n_trial n_book n_kept n_isKept n_seenStation n_seenOther n_seenWide n_seenWas n_sines n_at n_column n_gram n_right n_work v_thrown v_textSize v_place v_stations v_readStations v_doings v_seen v_seed v_wide v_up v_low r_page r_kept r_isKept) H → va_D A (wd_02ee1d k n_t n_text n_readPage n_page n_trial n_book n_kept n_isKept n_seenStation n_seenOther n_seenWide n_seenWas n_sines n_at n_column n_gram n_right n_work v_thrown v_textSize v_place v_stations v_readStations v_doings v_seen v_seed v_wide v_up v_low r_page r_kept r_isKept) → va_S A s.heap H locs → f_X6_again_L31 F r_kept r_isKept n31 v_thrown v_doings r_page x1 x2 = some (o_r, o_v_thrown, o_v_doings, o_r_page) → W p l e rm_X6_again s m args below meth c H locs 0 0 Q (F0 m 31 ls []) := by
    intro n31
    induction n31 with
    | zero =>
      intro v_thrown v_doings r_page x1 x2 H locs ls hl hP hD hS hm
      exact non_some hm
    | succ n31 ih31 =>
      intro v_thrown v_doings r_page x1 x2 H locs ls hl hP hD hS hm
      replace hm : f_X6_again_B31 F r_kept r_isKept (f_X6_again_L31 F r_kept r_isKept n31) v_thrown v_doings r_page x1 x2 = some (o_r, o_v_thrown, o_v_doings, o_r_page) := hm
      unfold f_X6_again_B31 at hm
      refine lv_iload_n hx hb dX6_again_31 rfl (lv_at hl 2 rfl) ?_
      refine lv_bipush (v := (50 : Int32)) hx hb dX6_again_32 (by decide) ?_
      refine lv_icmp_ge (tgt := 60) hx hb dX6_again_34 (by decide) (fun c1 => ?_) (fun c1 => ?_)
      · replace hm := ifp c1 hm
        refine lv_aload_n hx hb dX6_again_60 rfl (lv_at hl 0 rfl) ?_
        refine lv_iconst (v := (0 : Int32)) hx hb dX6_again_61 (by decide) ?_
        refine va_put (D := (dC, dI)) (ci := 6) (v := .int (0 : Int32)) (ty := .int) (C := RX6) (T := TX6) (N := 28) hx hb hts hinX6 tyX6 tyX6_ok nmX6 hown hG.1 hP hD hS 0 rfl rfl 10 (by decide) k0 (fun _ h9 => h9) rfl (by decide +kernel) rfl rfl (Nat.le_of_ble_eq_true rfl) dX6_again_62 (fun H locs hP hD hS => ?_)
        replace hP : va_P (dC, dI) vwCl (wd_02ee1d k n_t n_text n_readPage n_page n_trial n_book n_kept n_isKept n_seenStation n_seenOther n_seenWide n_seenWas n_sines n_at n_column n_gram n_right n_work v_thrown v_textSize v_place v_stations v_readStations (0 : Int32) v_seen v_seed v_wide v_up v_low r_page r_kept r_isKept) H := hP
        replace hD : va_D A (wd_02ee1d k n_t n_text n_readPage n_page n_trial n_book n_kept n_isKept n_seenStation n_seenOther n_seenWide n_seenWas n_sines n_at n_column n_gram n_right n_work v_thrown v_textSize v_place v_stations v_readStations (0 : Int32) v_seen v_seed v_wide v_up v_low r_page r_kept r_isKept) := hD
        refine lv_aload_n hx hb dX6_again_65 rfl (lv_at hl 0 rfl) ?_
        refine va_get (D := (dC, dI)) (ci := 6) (v := .ref n_page) (C := RX6) (T := TX6) (N := 28) hx hb hts hinX6 hown hG.1 hP 0 rfl rfl 7 (by decide) k1 (fun _ h9 => h9) rfl dX6_again_66 ?_
        refine lv_iconst (v := (0 : Int32)) hx hb dX6_again_69 (by decide) ?_
        obtain ⟨hi2, hm⟩ := chk_some hm
        refine va_iald hx hb hG.1 hP 1 0 rfl rfl hi2 dX6_again_70 ?_
        exact RET _ _ _ _ _ _ _ _ dX6_again_71 hm hP hD hS
      · replace hm := ifn c1 hm
        refine lv_aload_n hx hb dX6_again_37 rfl (lv_at hl 0 rfl) ?_
        refine va_get (D := (dC, dI)) (ci := 6) (v := .ref n_page) (C := RX6) (T := TX6) (N := 28) hx hb hts hinX6 hown hG.1 hP 0 rfl rfl 7 (by decide) k1 (fun _ h9 => h9) rfl dX6_again_38 ?_
        refine lv_iload_n hx hb dX6_again_41 rfl (lv_at hl 2 rfl) ?_
        refine lv_aload_n hx hb dX6_again_42 rfl (lv_at hl 0 rfl) ?_
        refine va_get (D := (dC, dI)) (ci := 6) (v := .ref n_kept) (C := RX6) (T := TX6) (N := 28) hx hb hts hinX6 hown hG.1 hP 0 rfl rfl 11 (by decide) k2 (fun _ h9 => h9) rfl dX6_again_43 ?_
        refine lv_bipush (v := (50 : Int32)) hx hb dX6_again_46 (by decide) ?_
        refine lv_iload_n hx hb dX6_again_48 rfl (lv_at hl 1 rfl) ?_
        refine lv_imul hx hb dX6_again_49 ?_
        refine lv_iload_n hx hb dX6_again_50 rfl (lv_at hl 2 rfl) ?_
        refine lv_iadd hx hb dX6_again_51 ?_
        obtain ⟨hi3, hm⟩ := chk_some hm
        refine va_iald hx hb hG.1 hP 2 0 rfl rfl hi3 dX6_again_52 ?_
        refine lv_topi (fun t4 et4 => ?_)
        replace hm := (nmd_eq et4).trans hm
        obtain ⟨hi5, hm⟩ := chk_some hm
        refine va_iast hx hb hG.1 hP hD hS 1 0 rfl rfl hi5 dX6_again_53 (fun H locs hP hD hS => ?_)
        replace hP : va_P (dC, dI) vwCl (wd_02ee1d k n_t n_text n_readPage n_page n_trial n_book n_kept n_isKept n_seenStation n_seenOther n_seenWide n_seenWas n_sines n_at n_column n_gram n_right n_work v_thrown v_textSize v_place v_stations v_readStations v_doings v_seen v_seed v_wide v_up v_low (upd r_page (Int32.toNatClampNeg x2) t4) r_kept r_isKept) H := hP
        replace hD : va_D A (wd_02ee1d k n_t n_text n_readPage n_page n_trial n_book n_kept n_isKept n_seenStation n_seenOther n_seenWide n_seenWas n_sines n_at n_column n_gram n_right n_work v_thrown v_textSize v_place v_stations v_readStations v_doings v_seen v_seed v_wide v_up v_low (upd r_page (Int32.toNatClampNeg x2) t4) r_kept r_isKept) := hD
        obtain ⟨t6, et6⟩ : ∃ y : Int32, y = x2 + (1 : Int32) := ⟨_, rfl⟩
        replace hm := (nmd_eq et6).trans hm
        refine lv_iinc (v := t6) (lv' := [(2, .int t6), (0, .ref n_t), (1, .int x1)]) hx hb dX6_again_54 hl (k := 2) rfl (by rw [et6]; rfl) (by decide) rfl (fun ls hl => ?_)
        refine lv_goto (tgt := 31) hx hb dX6_again_57 (by decide) ?_
        exact ih31 _ _ _ _ _ _ _ _ (lv_sub hl [1, 2, 0] rfl) hP hD hS hm
  unfold f_X6_again at hm
  refine lv_aload_n hx hb dX6_again_0 rfl (lv_at hl 0 rfl) ?_
  refine lv_iconst (v := (0 : Int32)) hx hb dX6_again_1 (by decide) ?_
  refine va_put (D := (dC, dI)) (ci := 6) (v := .int (0 : Int32)) (ty := .int) (C := RX6) (T := TX6) (N := 28) hx hb hts hinX6 tyX6 tyX6_ok nmX6 hown hG.1 hP hD hS 0 rfl rfl 0 (by decide) k3 (fun _ h9 => h9) rfl (by decide +kernel) rfl rfl (Nat.le_of_ble_eq_true rfl) dX6_again_2 (fun H locs hP hD hS => ?_)
  replace hP : va_P (dC, dI) vwCl (wd_02ee1d k n_t n_text n_readPage n_page n_trial n_book n_kept n_isKept n_seenStation n_seenOther n_seenWide n_seenWas n_sines n_at n_column n_gram n_right n_work (0 : Int32) v_textSize v_place v_stations v_readStations v_doings v_seen v_seed v_wide v_up v_low r_page r_kept r_isKept) H := hP
  replace hD : va_D A (wd_02ee1d k n_t n_text n_readPage n_page n_trial n_book n_kept n_isKept n_seenStation n_seenOther n_seenWide n_seenWas n_sines n_at n_column n_gram n_right n_work (0 : Int32) v_textSize v_place v_stations v_readStations v_doings v_seen v_seed v_wide v_up v_low r_page r_kept r_isKept) := hD
  refine lv_iload_n hx hb dX6_again_5 rfl (lv_at hl 1 rfl) ?_
  refine g_i2l hx hb dX6_again_6 ?_
  refine lv_lconst (v := (0 : Int64)) hx hb dX6_again_7 (by decide) ?_
  refine lv_lconst (v := (1 : Int64)) hx hb dX6_again_8 (by decide) ?_
  obtain ⟨r7, e8, hm⟩ := bnd1_some hm
  refine g_calli (w2 := (wd_02ee1d k n_t n_text n_readPage n_page n_trial n_book n_kept n_isKept n_seenStation n_seenOther n_seenWide n_seenWas n_sines n_at n_column n_gram n_right n_work (0 : Int32) v_textSize v_place v_stations v_readStations v_doings v_seen v_seed v_wide v_up v_low r_page r_kept r_isKept)) (va_runS (As := [.long (Int32.toInt64 x1), .long (0 : Int64), .long (1 : Int64)]) (rest := []) ⟨hx, hb, hml, hown, hts⟩ (m_X6_in l dC dI k H.size  (Int32.toInt64 x1) (0 : Int64) (1 : Int64) e8) (va_cwS 3 hts gX6_again_X6_in rfl rfl rfl (by decide +kernel) ⟨Nat.le_of_ble_eq_true rfl, Nat.le_of_ble_eq_true rfl⟩) (g_preS hG hP hD hS hA [] rfl (by decide)) rfl rfl hl.1 rfl (lv_room (Nat.le_of_ble_eq_true rfl)) dX6_again_9 ⟨Nat.le_of_ble_eq_true rfl, Nat.le_of_ble_eq_true rfl⟩) hP hD hS hA [] [0, 1, 2, 3] [0, 1, 2, 3] rfl rfl (by decide) (by decide) rfl (by decide) (fun H locs hP hD hS => ?_)
  refine lv_if_ne (tgt := 17) hx hb dX6_again_12 (by decide) (fun c9 => ?_) (fun c9 => ?_)
  · replace hm := ifn c9 hm
    refine lv_aload_n hx hb dX6_again_17 rfl (lv_at hl 0 rfl) ?_
    refine va_get (D := (dC, dI)) (ci := 6) (v := .ref n_isKept) (C := RX6) (T := TX6) (N := 28) hx hb hts hinX6 hown hG.1 hP 0 rfl rfl 12 (by decide) k4 (fun _ h9 => h9) rfl dX6_again_18 ?_
    refine lv_iload_n hx hb dX6_again_21 rfl (lv_at hl 1 rfl) ?_
    obtain ⟨hi10, hm⟩ := chk_some hm
    refine va_zald hx hb hG.1 hP 3 3 rfl rfl hi10 dX6_again_22 ?_
    refine lv_if_ne (tgt := 29) hx hb dX6_again_23 (by decide) (fun c11 => ?_) (fun c11 => ?_)
    · replace hm := ifn c11 hm
      refine lv_iconst (v := (0 : Int32)) hx hb dX6_again_29 (by decide) ?_
      refine lv_istore_n (lv' := [(2, .int (0 : Int32)), (0, .ref n_t), (1, .int x1)]) hx hb dX6_again_30 rfl hl (by decide) rfl (fun ls hl => ?_)
      exact L_31 F _ _ _ _ _ _ _ _ (lv_sub hl [1, 2, 0] rfl) hP hD hS hm
    · replace hm := ifp c11 hm
      refine lv_bipush (v := (-3 : Int32)) hx hb dX6_again_26 (by decide) ?_
      exact RET _ _ _ _ _ _ _ _ dX6_again_28 hm hP hD hS
  · replace hm := ifp c9 hm
    refine lv_iconst (v := (-1 : Int32)) hx hb dX6_again_15 (by decide) ?_
    exact RET _ _ _ _ _ _ _ _ dX6_again_16 hm hP hD hS
set_option maxRecDepth 100000 in
theorem m_X6_again (l : Launch) (dC : Nat → ClassId) (dI : Nat → Nat → Nat) (k : Nat → ClassId) (F : Nat) (sz : Nat) (n_t n_text n_readPage n_page n_trial n_book n_kept n_isKept n_seenStation n_seenOther n_seenWide n_seenWas n_sines n_at n_column n_gram n_right n_work : Nat) (v_thrown : Int32) (v_textSize : Int32) (v_place : Int32) (v_stations : Int32) (v_readStations : Int32) (v_doings : Int32) (v_seen : Int32) (v_seed : Int64) (v_wide : Int32) (v_up : Int64) (v_low : Int64) (r_page : Nat → Int32) (r_kept : Nat → Int32) (r_isKept : Nat → Int32) (x1 : Int32) {o_r : Int32} {o_v_thrown : (Int32)} {o_v_doings : (Int32)} {o_r_page : (Nat → Int32)} (hm : f_X6_again F x1 v_thrown v_doings r_page r_kept r_isKept = some (o_r, o_v_thrown, o_v_doings, o_r_page)) : Met l yX6_again wsX6_again rm_X6_again (gPre dC dI k [.ref n_t, .int x1] sz (wd_02ee1d k n_t n_text n_readPage n_page n_trial n_book n_kept n_isKept n_seenStation n_seenOther n_seenWide n_seenWas n_sines n_at n_column n_gram n_right n_work v_thrown v_textSize v_place v_stations v_readStations v_doings v_seen v_seed v_wide v_up v_low r_page r_kept r_isKept)) (gQI dC dI (va_A (wd_02ee1d k n_t n_text n_readPage n_page n_trial n_book n_kept n_isKept n_seenStation n_seenOther n_seenWide n_seenWas n_sines n_at n_column n_gram n_right n_work v_thrown v_textSize v_place v_stations v_readStations v_doings v_seen v_seed v_wide v_up v_low r_page r_kept r_isKept) sz) o_r (wd_02ee1d k n_t n_text n_readPage n_page n_trial n_book n_kept n_isKept n_seenStation n_seenOther n_seenWide n_seenWas n_sines n_at n_column n_gram n_right n_work o_v_thrown v_textSize v_place v_stations v_readStations o_v_doings v_seen v_seed v_wide v_up v_low o_r_page r_kept r_isKept)) 0 0 (va_A (wd_02ee1d k n_t n_text n_readPage n_page n_trial n_book n_kept n_isKept n_seenStation n_seenOther n_seenWide n_seenWas n_sines n_at n_column n_gram n_right n_work v_thrown v_textSize v_place v_stations v_readStations v_doings v_seen v_seed v_wide v_up v_low r_page r_kept r_isKept) sz) := by
  refine g_entry (cc := cX6_again) (maxL := 3) (ret := (some .int)) (lv := [(0, .ref n_t), (1, .int x1)]) (by decide +kernel) rfl (Nat.le_of_ble_eq_true rfl) rfl (fun p e s m below meth c ls hx hb hr hml hts hown hlk hnm hsz hG hA hP hD hS hl => ?_)
  exact k_X6_again hx hb hml hts hown hG hA F n_t n_text n_readPage n_page n_trial n_book n_kept n_isKept n_seenStation n_seenOther n_seenWide n_seenWas n_sines n_at n_column n_gram n_right n_work v_thrown v_textSize v_place v_stations v_readStations v_doings v_seen v_seed v_wide v_up v_low r_page r_kept r_isKept x1 o_r o_v_thrown o_v_doings o_r_page (fun pc H locs ls v q_v_thrown q_v_doings q_r_page hd ho hP hD hS => by cases ho; exact g_ireti hx hb hr hlk hP hD hS hd) s.heap [] ls hl hP hD hS hm
end
section
set_option maxHeartbeats 4000000 in
set_option maxRecDepth 100000 in
theorem k_X6_count {p : Program} {l : Launch} {e : Env} {s : State} {m : MethodId} {args : Array Value} {below : List Frame} {meth : Method} {c : Code} {A : Nat → Prop} {Q : State → Prop} {dC : Nat → ClassId} {dI : Nat → Nat → Nat} {k : Nat → ClassId} (hx : p.tables.exec = Jvm.exec) (hb : c.code = cX6_count) (hml : c.maxLocals = 2) (hts : ∀ w ∈ wsX6_count, w.before args s = true) (hown : s.vm.findClass RX6 = some m.cls) (hG : gK dC dI k A s) (hA : ∀ q : Nat, s.heap.size ≤ q → A q) (n_t n_text n_readPage n_page n_trial n_book n_kept n_isKept n_seenStation n_seenOther n_seenWide n_seenWas n_sines n_at n_column n_gram n_right n_work : Nat) (v_thrown : Int32) (v_textSize : Int32) (v_place : Int32) (v_stations : Int32) (v_readStations : Int32) (v_doings : Int32) (v_seen : Int32) (v_seed : Int64) (v_wide : Int32) (v_up : Int64) (v_low : Int64) (r_page : Nat → Int32) (x1 : Int32) (o_r : Int32) (o_v_thrown : (Int32)) (RET : ∀ (pc : Nat) (H : Heap) (locs : List Loc) (ls : Array Slot) (v : Int32) (q_v_thrown : Int32), decode cX6_count pc = .ok (.ireturn, 1) → some (v, q_v_thrown) = some (o_r, o_v_thrown) → va_P (dC, dI) vwCl (wd_6d76fb k n_t n_text n_readPage n_page n_trial n_book n_kept n_isKept n_seenStation n_seenOther n_seenWide n_seenWas n_sines n_at n_column n_gram n_right n_work q_v_thrown v_textSize v_place v_stations v_readStations v_doings v_seen v_seed v_wide v_up v_low r_page) H → va_D A (wd_6d76fb k n_t n_text n_readPage n_page n_trial n_book n_kept n_isKept n_seenStation n_seenOther n_seenWide n_seenWas n_sines n_at n_column n_gram n_right n_work q_v_thrown v_textSize v_place v_stations v_readStations v_doings v_seen v_seed v_wide v_up v_low r_page) → va_S A s.heap H locs → W p l e rm_X6_count s m args below meth c H locs 0 0 Q (F0 m pc ls [.int v])) (H : Heap) (locs : List Loc) (ls : Array Slot) (hl : lv_has ls 2 [(0, .ref n_t), (1, .int x1)]) (hP : va_P (dC, dI) vwCl (wd_6d76fb k n_t n_text n_readPage n_page n_trial n_book n_kept n_isKept n_seenStation n_seenOther n_seenWide n_seenWas n_sines n_at n_column n_gram n_right n_work v_thrown v_textSize v_place v_stations v_readStations v_doings v_seen v_seed v_wide v_up v_low r_page) H) (hD : va_D A (wd_6d76fb k n_t n_text n_readPage n_page n_trial n_book n_kept n_isKept n_seenStation n_seenOther n_seenWide n_seenWas n_sines n_at n_column n_gram n_right n_work v_thrown v_textSize v_place v_stations v_readStations v_doings v_seen v_seed v_wide v_up v_low r_page)) (hS : va_S A s.heap H locs) (hm : f_X6_count x1 v_thrown v_textSize v_stations v_doings v_seen r_page = some (o_r, o_v_thrown)) : W p l e rm_X6_count s m args below meth c H locs 0 0 Q (F0 m 0 ls []) := by
  have hinX6 : ∀ w ∈ u_ws RX6 TX6 28, w ∈ wsX6_count := by decide +kernel
  have k0 := hts (.fieldLink RX6 67 "CaveLegsModel" "thrown" "I") (by decide +kernel)
  have k1 := hts (.fieldLink RX6 76 "CaveLegsModel" "textSize" "I") (by decide +kernel)
  have k2 := hts (.fieldLink RX6 13 "CaveLegsModel" "stations" "I") (by decide +kernel)
  have k3 := hts (.fieldLink RX6 20 "CaveLegsModel" "page" "[I") (by decide +kernel)
  have k4 := hts (.fieldLink RX6 100 "CaveLegsModel" "doings" "I") (by decide +kernel)
  have k5 := hts (.fieldLink RX6 260 "CaveLegsModel" "seen" "I") (by decide +kernel)
  unfold f_X6_count at hm
  refine lv_aload_n hx hb dX6_count_0 rfl (lv_at hl 0 rfl) ?_
  refine lv_iconst (v := (0 : Int32)) hx hb dX6_count_1 (by decide) ?_
  refine va_put (D := (dC, dI)) (ci := 6) (v := .int (0 : Int32)) (ty := .int) (C := RX6) (T := TX6) (N := 28) hx hb hts hinX6 tyX6 tyX6_ok nmX6 hown hG.1 hP hD hS 0 rfl rfl 0 (by decide) k0 (fun _ h9 => h9) rfl (by decide +kernel) rfl rfl (Nat.le_of_ble_eq_true rfl) dX6_count_2 (fun H locs hP hD hS => ?_)
  replace hP : va_P (dC, dI) vwCl (wd_6d76fb k n_t n_text n_readPage n_page n_trial n_book n_kept n_isKept n_seenStation n_seenOther n_seenWide n_seenWas n_sines n_at n_column n_gram n_right n_work (0 : Int32) v_textSize v_place v_stations v_readStations v_doings v_seen v_seed v_wide v_up v_low r_page) H := hP
  replace hD : va_D A (wd_6d76fb k n_t n_text n_readPage n_page n_trial n_book n_kept n_isKept n_seenStation n_seenOther n_seenWide n_seenWas n_sines n_at n_column n_gram n_right n_work (0 : Int32) v_textSize v_place v_stations v_readStations v_doings v_seen v_seed v_wide v_up v_low r_page) := hD
  refine lv_iload_n hx hb dX6_count_5 rfl (lv_at hl 1 rfl) ?_
  by_cases c1 : x1 = (0 : Int32)
  · replace hm := ifp c1 hm
    refine lv_tableIn (off := 38) (tgt := 44) hx hb dX6_count_6 (by rw [c1]; decide) (by rw [c1]; decide) (by rw [c1]; rfl) (by decide) ?_
    refine lv_aload_n hx hb dX6_count_44 rfl (lv_at hl 0 rfl) ?_
    refine va_get (D := (dC, dI)) (ci := 6) (v := .int v_textSize) (C := RX6) (T := TX6) (N := 28) hx hb hts hinX6 hown hG.1 hP 0 rfl rfl 2 (by decide) k1 (fun _ h9 => h9) rfl dX6_count_45 ?_
    exact RET _ _ _ _ _ _ dX6_count_48 hm hP hD hS
  · replace hm := ifn c1 hm
    by_cases c2 : x1 = (1 : Int32)
    · replace hm := ifp c2 hm
      refine lv_tableIn (off := 43) (tgt := 49) hx hb dX6_count_6 (by rw [c2]; decide) (by rw [c2]; decide) (by rw [c2]; rfl) (by decide) ?_
      refine lv_aload_n hx hb dX6_count_49 rfl (lv_at hl 0 rfl) ?_
      refine va_get (D := (dC, dI)) (ci := 6) (v := .int v_stations) (C := RX6) (T := TX6) (N := 28) hx hb hts hinX6 hown hG.1 hP 0 rfl rfl 4 (by decide) k2 (fun _ h9 => h9) rfl dX6_count_50 ?_
      exact RET _ _ _ _ _ _ dX6_count_53 hm hP hD hS
    · replace hm := ifn c2 hm
      by_cases c3 : x1 = (2 : Int32)
      · replace hm := ifp c3 hm
        refine lv_tableIn (off := 48) (tgt := 54) hx hb dX6_count_6 (by rw [c3]; decide) (by rw [c3]; decide) (by rw [c3]; rfl) (by decide) ?_
        refine lv_aload_n hx hb dX6_count_54 rfl (lv_at hl 0 rfl) ?_
        refine va_get (D := (dC, dI)) (ci := 6) (v := .ref n_page) (C := RX6) (T := TX6) (N := 28) hx hb hts hinX6 hown hG.1 hP 0 rfl rfl 7 (by decide) k3 (fun _ h9 => h9) rfl dX6_count_55 ?_
        refine lv_iconst (v := (0 : Int32)) hx hb dX6_count_58 (by decide) ?_
        obtain ⟨hi4, hm⟩ := chk_some hm
        refine va_iald hx hb hG.1 hP 1 0 rfl rfl hi4 dX6_count_59 ?_
        exact RET _ _ _ _ _ _ dX6_count_60 hm hP hD hS
      · replace hm := ifn c3 hm
        by_cases c5 : x1 = (3 : Int32)
        · replace hm := ifp c5 hm
          refine lv_tableIn (off := 55) (tgt := 61) hx hb dX6_count_6 (by rw [c5]; decide) (by rw [c5]; decide) (by rw [c5]; rfl) (by decide) ?_
          refine lv_aload_n hx hb dX6_count_61 rfl (lv_at hl 0 rfl) ?_
          refine va_get (D := (dC, dI)) (ci := 6) (v := .ref n_page) (C := RX6) (T := TX6) (N := 28) hx hb hts hinX6 hown hG.1 hP 0 rfl rfl 7 (by decide) k3 (fun _ h9 => h9) rfl dX6_count_62 ?_
          refine lv_iconst (v := (1 : Int32)) hx hb dX6_count_65 (by decide) ?_
          obtain ⟨hi6, hm⟩ := chk_some hm
          refine va_iald hx hb hG.1 hP 1 0 rfl rfl hi6 dX6_count_66 ?_
          exact RET _ _ _ _ _ _ dX6_count_67 hm hP hD hS
        · replace hm := ifn c5 hm
          by_cases c7 : x1 = (4 : Int32)
          · replace hm := ifp c7 hm
            refine lv_tableIn (off := 62) (tgt := 68) hx hb dX6_count_6 (by rw [c7]; decide) (by rw [c7]; decide) (by rw [c7]; rfl) (by decide) ?_
            refine lv_aload_n hx hb dX6_count_68 rfl (lv_at hl 0 rfl) ?_
            refine va_get (D := (dC, dI)) (ci := 6) (v := .int v_doings) (C := RX6) (T := TX6) (N := 28) hx hb hts hinX6 hown hG.1 hP 0 rfl rfl 10 (by decide) k4 (fun _ h9 => h9) rfl dX6_count_69 ?_
            exact RET _ _ _ _ _ _ dX6_count_72 hm hP hD hS
          · replace hm := ifn c7 hm
            by_cases c8 : x1 = (5 : Int32)
            · replace hm := ifp c8 hm
              refine lv_tableIn (off := 67) (tgt := 73) hx hb dX6_count_6 (by rw [c8]; decide) (by rw [c8]; decide) (by rw [c8]; rfl) (by decide) ?_
              refine lv_aload_n hx hb dX6_count_73 rfl (lv_at hl 0 rfl) ?_
              refine va_get (D := (dC, dI)) (ci := 6) (v := .int v_seen) (C := RX6) (T := TX6) (N := 28) hx hb hts hinX6 hown hG.1 hP 0 rfl rfl 13 (by decide) k5 (fun _ h9 => h9) rfl dX6_count_74 ?_
              exact RET _ _ _ _ _ _ dX6_count_77 hm hP hD hS
            · replace hm := ifn c8 hm
              refine lv_tableOut (tgt := 78) hx hb dX6_count_6 (by have qc1 := i32_ne c1 (z := 0) (by decide); have qc2 := i32_ne c2 (z := 1) (by decide); have qc3 := i32_ne c3 (z := 2) (by decide); have qc5 := i32_ne c5 (z := 3) (by decide); have qc7 := i32_ne c7 (z := 4) (by decide); have qc8 := i32_ne c8 (z := 5) (by decide); omega) (by decide) ?_
              refine lv_bipush (v := (-2 : Int32)) hx hb dX6_count_78 (by decide) ?_
              exact RET _ _ _ _ _ _ dX6_count_80 hm hP hD hS
set_option maxRecDepth 100000 in
theorem m_X6_count (l : Launch) (dC : Nat → ClassId) (dI : Nat → Nat → Nat) (k : Nat → ClassId) (sz : Nat) (n_t n_text n_readPage n_page n_trial n_book n_kept n_isKept n_seenStation n_seenOther n_seenWide n_seenWas n_sines n_at n_column n_gram n_right n_work : Nat) (v_thrown : Int32) (v_textSize : Int32) (v_place : Int32) (v_stations : Int32) (v_readStations : Int32) (v_doings : Int32) (v_seen : Int32) (v_seed : Int64) (v_wide : Int32) (v_up : Int64) (v_low : Int64) (r_page : Nat → Int32) (x1 : Int32) {o_r : Int32} {o_v_thrown : (Int32)} (hm : f_X6_count x1 v_thrown v_textSize v_stations v_doings v_seen r_page = some (o_r, o_v_thrown)) : Met l yX6_count wsX6_count rm_X6_count (gPre dC dI k [.ref n_t, .int x1] sz (wd_6d76fb k n_t n_text n_readPage n_page n_trial n_book n_kept n_isKept n_seenStation n_seenOther n_seenWide n_seenWas n_sines n_at n_column n_gram n_right n_work v_thrown v_textSize v_place v_stations v_readStations v_doings v_seen v_seed v_wide v_up v_low r_page)) (gQI dC dI (va_A (wd_6d76fb k n_t n_text n_readPage n_page n_trial n_book n_kept n_isKept n_seenStation n_seenOther n_seenWide n_seenWas n_sines n_at n_column n_gram n_right n_work v_thrown v_textSize v_place v_stations v_readStations v_doings v_seen v_seed v_wide v_up v_low r_page) sz) o_r (wd_6d76fb k n_t n_text n_readPage n_page n_trial n_book n_kept n_isKept n_seenStation n_seenOther n_seenWide n_seenWas n_sines n_at n_column n_gram n_right n_work o_v_thrown v_textSize v_place v_stations v_readStations v_doings v_seen v_seed v_wide v_up v_low r_page)) 0 0 (va_A (wd_6d76fb k n_t n_text n_readPage n_page n_trial n_book n_kept n_isKept n_seenStation n_seenOther n_seenWide n_seenWas n_sines n_at n_column n_gram n_right n_work v_thrown v_textSize v_place v_stations v_readStations v_doings v_seen v_seed v_wide v_up v_low r_page) sz) := by
  refine g_entry (cc := cX6_count) (maxL := 2) (ret := (some .int)) (lv := [(0, .ref n_t), (1, .int x1)]) (by decide +kernel) rfl (Nat.le_of_ble_eq_true rfl) rfl (fun p e s m below meth c ls hx hb hr hml hts hown hlk hnm hsz hG hA hP hD hS hl => ?_)
  exact k_X6_count hx hb hml hts hown hG hA n_t n_text n_readPage n_page n_trial n_book n_kept n_isKept n_seenStation n_seenOther n_seenWide n_seenWas n_sines n_at n_column n_gram n_right n_work v_thrown v_textSize v_place v_stations v_readStations v_doings v_seen v_seed v_wide v_up v_low r_page x1 o_r o_v_thrown (fun pc H locs ls v q_v_thrown hd ho hP hD hS => by cases ho; exact g_ireti hx hb hr hlk hP hD hS hd) s.heap [] ls hl hP hD hS hm
end
