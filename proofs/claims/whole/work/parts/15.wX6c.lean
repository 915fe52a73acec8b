section
set_option maxHeartbeats 4000000 in
set_option maxRecDepth 100000 in
theorem k_X6_layColumns {p : Program} {l : Launch} {e : Env} {s : State} {m : MethodId} {args : Array Value} {below : List Frame} {meth : Method} {c : Code} {A : Nat → Prop} {Q : State → Prop} {dC : Nat → ClassId} {dI : Nat → Nat → Nat} {k : Nat → ClassId} (hx : p.tables.exec = Jvm.exec) (hb : c.code = cX6_layColumns) (hml : c.maxLocals = 4) (hts : ∀ w ∈ wsX6_layColumns, w.before args s = true) (hown : s.vm.findClass RX6 = some m.cls) (hG : gK dC dI k A s) (hA : ∀ q : Nat, s.heap.size ≤ q → A q) (F : Nat) (n_t n_text n_readPage n_page n_trial n_book n_kept n_isKept n_seenStation n_seenOther n_seenWide n_seenWas n_sines n_at n_column n_gram n_right n_work : Nat) (v_thrown : Int32) (v_textSize : Int32) (v_place : Int32) (v_stations : Int32) (v_readStations : Int32) (v_doings : Int32) (v_seen : Int32) (v_seed : Int64) (v_wide : Int32) (v_up : Int64) (v_low : Int64) (r_column : Nat → Int32) (x1 : Int32) (o_v_wide : (Int32)) (o_r_column : (Nat → Int32)) (RET : ∀ (pc : Nat) (H : Heap) (locs : List Loc) (ls : Array Slot) (q_v_wide : Int32) (q_r_column : Nat → Int32), decode cX6_layColumns pc = .ok (.return_, 1) → some (q_v_wide, q_r_column) = some (o_v_wide, o_r_column) → va_P (dC, dI) vwCl (wd_cc4f82 k n_t n_text n_readPage n_page n_trial n_book n_kept n_isKept n_seenStation n_seenOther n_seenWide n_seenWas n_sines n_at n_column n_gram n_right n_work v_thrown v_textSize v_place v_stations v_readStations v_doings v_seen v_seed q_v_wide v_up v_low q_r_column) H → va_D A (wd_cc4f82 k n_t n_text n_readPage n_page n_trial n_book n_kept n_isKept n_seenStation n_seenOther n_seenWide n_seenWas n_sines n_at n_column n_gram n_right n_work v_thrown v_textSize v_place v_stations v_readStations v_doings v_seen v_seed q_v_wide v_up v_low q_r_column) → va_S A s.heap H locs → W p l e rm_X6_layColumns s m args below meth c H locs 0 0 Q (F0 m pc ls [])) (H : Heap) (locs : List Loc) (ls : Array Slot) (hl : lv_has ls 4 [(0, .ref n_t), (1, .int x1)]) (hP : va_P (dC, dI) vwCl (wd_cc4f82 k n_t n_text n_readPage n_page n_trial n_book n_kept n_isKept n_seenStation n_seenOther n_seenWide n_seenWas n_sines n_at n_column n_gram n_right n_work v_thrown v_textSize v_place v_stations v_readStations v_doings v_seen v_seed v_wide v_up v_low r_column) H) (hD : va_D A (wd_cc4f82 k n_t n_text n_readPage n_page n_trial n_book n_kept n_isKept n_seenStation n_seenOther n_seenWide n_seenWas n_sines n_at n_column n_gram n_right n_work v_thrown v_textSize v_place v_stations v_readStations v_doings v_seen v_seed v_wide v_up v_low r_column)) (hS : va_S A s.heap H locs) (hm : f_X6_layColumns F x1 v_wide r_column = some (o_v_wide, o_r_column)) : W p l e rm_X6_layColumns s m args below meth c H locs 0 0 Q (F0 m 0 ls []) := by
  have hinX6 : ∀ w ∈ u_ws RX6 TX6 28, w ∈ wsX6_layColumns := by decide +kernel
  have k0 := hts (.fieldLink RX6 175 "CaveLegsModel" "wide" "I") (by decide +kernel)
  have k1 := hts (.fieldLink RX6 54 "CaveLegsModel" "column" "[I") (by decide +kernel)
  have L_7 : ∀ (n7 : Nat) (v_wide : Int32) (r_column : Nat → Int32) (x1 : Int32) (x2 : Int32) (H : Heap) (locs : List Loc) (ls : Array Slot), lv_has ls 4 [(0, .ref n_t), (1, .int x1), (2, .int x2)] → va_P (dC, dI) vwCl (wd_cc4f82 k n_t n_text n_readPage n_page n_trial n_book n_kept n_isKept n_seenStation n_seenOther n_seenWide n_seenWas n_sines n_at n_column n_gram n_right n_work v_thrown v_textSize v_place v_stations v_readStations v_doings v_seen v_seed v_wide v_up v_low r_column) H → va_D A (wd_cc4f82 k n_t n_text n_readPage n_page n_trial n_book n_kept n_isKept n_seenStation n_seenOther n_seenWide n_seenWas n_sines n_at n_column n_gram n_right n_work v_thrown v_textSize v_place v_stations v_readStations v_doings v_seen v_seed v_wide v_up v_low r_column) → va_S A s.heap H locs → f_X6_layColumns_L7 F n7 v_wide r_column x1 x2 = some (o_v_wide, o_r_column) → W p l e rm_X6_layColumns s m args below meth c H locs 0 0 Q (F0 m 7 ls []) := by
    intro n7
    induction n7 with
    | zero =>
      intro v_wide r_column x1 x2 H locs ls hl hP hD hS hm
      exact non_some hm
    | succ n7 ih7 =>
      have J_64 : ∀ (v_wide : Int32) (r_column : Nat → Int32) (x1 : Int32) (x2 : Int32) (s1 : Int32) (s2 : Int32) (H : Heap) (locs : List Loc) (ls : Array Slot), lv_has ls 4 [(0, .ref n_t), (1, .int x1), (2, .int x2)] → va_P (dC, dI) vwCl (wd_cc4f82 k n_t n_text n_readPage n_page n_trial n_book n_kept n_isKept n_seenStation n_seenOther n_seenWide n_seenWas n_sines n_at n_column n_gram n_right n_work v_thrown v_textSize v_place v_stations v_readStations v_doings v_seen v_seed v_wide v_up v_low r_column) H → va_D A (wd_cc4f82 k n_t n_text n_readPage n_page n_trial n_book n_kept n_isKept n_seenStation n_seenOther n_seenWide n_seenWas n_sines n_at n_column n_gram n_right n_work v_thrown v_textSize v_place v_stations v_readStations v_doings v_seen v_seed v_wide v_up v_low r_column) → va_S A s.heap H locs → f_X6_layColumns_J64 F (f_X6_layColumns_L7 F n7) v_wide r_column x1 x2 s1 s2 = some (o_v_wide, o_r_column) → W p l e rm_X6_layColumns s m args below meth c H locs 0 0 Q (F0 m 64 ls [.int s2, .int s1, .ref n_t]) := by
        intro v_wide r_column x1 x2 s1 s2 H locs ls hl hP hD hS hm
        unfold f_X6_layColumns_J64 at hm
        refine lv_iadd hx hb dX6_layColumns_64 ?_
        refine lv_topi (fun t1 et1 => ?_)
        replace hm := (nmd_eq et1).trans hm
        refine va_put (D := (dC, dI)) (ci := 6) (v := .int t1) (ty := .int) (C := RX6) (T := TX6) (N := 28) hx hb hts hinX6 tyX6 tyX6_ok nmX6 hown hG.1 hP hD hS 0 rfl rfl 21 (by decide) k0 (fun _ h9 => h9) rfl (by decide +kernel) rfl rfl (Nat.le_of_ble_eq_true rfl) dX6_layColumns_65 (fun H locs hP hD hS => ?_)
        replace hP : va_P (dC, dI) vwCl (wd_cc4f82 k n_t n_text n_readPage n_page n_trial n_book n_kept n_isKept n_seenStation n_seenOther n_seenWide n_seenWas n_sines n_at n_column n_gram n_right n_work v_thrown v_textSize v_place v_stations v_readStations v_doings v_seen v_seed t1 v_up v_low r_column) H := hP
        replace hD : va_D A (wd_cc4f82 k n_t n_text n_readPage n_page n_trial n_book n_kept n_isKept n_seenStation n_seenOther n_seenWide n_seenWas n_sines n_at n_column n_gram n_right n_work v_thrown v_textSize v_place v_stations v_readStations v_doings v_seen v_seed t1 v_up v_low r_column) := hD
        obtain ⟨t2, et2⟩ : ∃ y : Int32, y = x2 + (1 : Int32) := ⟨_, rfl⟩
        replace hm := (nmd_eq et2).trans hm
        refine lv_iinc (v := t2) (lv' := [(2, .int t2), (0, .ref n_t), (1, .int x1)]) hx hb dX6_layColumns_68 hl (k := 2) rfl (by rw [et2]; rfl) (by decide) rfl (fun ls hl => ?_)
        refine lv_goto (tgt := 7) hx hb dX6_layColumns_71 (by decide) ?_
        exact ih7 _ _ _ _ _ _ _ (lv_sub hl [1, 2, 0] rfl) hP hD hS hm
      have J_49 : ∀ (v_wide : Int32) (r_column : Nat → Int32) (x1 : Int32) (x2 : Int32) (x3 : Int32) (s1 : Int32) (s2 : Int32) (H : Heap) (locs : List Loc) (ls : Array Slot), lv_has ls 4 [(0, .ref n_t), (1, .int x1), (2, .int x2), (3, .int x3)] → va_P (dC, dI) vwCl (wd_cc4f82 k n_t n_text n_readPage n_page n_trial n_book n_kept n_isKept n_seenStation n_seenOther n_seenWide n_seenWas n_sines n_at n_column n_gram n_right n_work v_thrown v_textSize v_place v_stations v_readStations v_doings v_seen v_seed v_wide v_up v_low r_column) H → va_D A (wd_cc4f82 k n_t n_text n_readPage n_page n_trial n_book n_kept n_isKept n_seenStation n_seenOther n_seenWide n_seenWas n_sines n_at n_column n_gram n_right n_work v_thrown v_textSize v_place v_stations v_readStations v_doings v_seen v_seed v_wide v_up v_low r_column) → va_S A s.heap H locs → f_X6_layColumns_J49 F (f_X6_layColumns_L7 F n7) v_wide r_column x1 x2 x3 s1 s2 = some (o_v_wide, o_r_column) → W p l e rm_X6_layColumns s m args below meth c H locs 0 0 Q (F0 m 49 ls [.int s2, .int s1, .ref n_column]) := by
        intro v_wide r_column x1 x2 x3 s1 s2 H locs ls hl hP hD hS hm
        unfold f_X6_layColumns_J49 at hm
        obtain ⟨hi3, hm⟩ := chk_some hm
        refine va_iast hx hb hG.1 hP hD hS 1 0 rfl rfl hi3 dX6_layColumns_49 (fun H locs hP hD hS => ?_)
        replace hP : va_P (dC, dI) vwCl (wd_cc4f82 k n_t n_text n_readPage n_page n_trial n_book n_kept n_isKept n_seenStation n_seenOther n_seenWide n_seenWas n_sines n_at n_column n_gram n_right n_work v_thrown v_textSize v_place v_stations v_readStations v_doings v_seen v_seed v_wide v_up v_low (upd r_column (Int32.toNatClampNeg s1) s2)) H := hP
        replace hD : va_D A (wd_cc4f82 k n_t n_text n_readPage n_page n_trial n_book n_kept n_isKept n_seenStation n_seenOther n_seenWide n_seenWas n_sines n_at n_column n_gram n_right n_work v_thrown v_textSize v_place v_stations v_readStations v_doings v_seen v_seed v_wide v_up v_low (upd r_column (Int32.toNatClampNeg s1) s2)) := hD
        refine lv_aload_n hx hb dX6_layColumns_50 rfl (lv_at hl 0 rfl) ?_
        refine lv_dup hx hb dX6_layColumns_51 rfl ?_
        refine va_get (D := (dC, dI)) (ci := 6) (v := .int v_wide) (C := RX6) (T := TX6) (N := 28) hx hb hts hinX6 hown hG.1 hP 0 rfl rfl 21 (by decide) k0 (fun _ h9 => h9) rfl dX6_layColumns_52 ?_
        refine lv_iload_n hx hb dX6_layColumns_55 rfl (lv_at hl 3 rfl) ?_
        refine lv_if_eq (tgt := 63) hx hb dX6_layColumns_56 (by decide) (fun c4 => ?_) (fun c4 => ?_)
        · replace hm := ifp c4 hm
          refine lv_iconst (v := (0 : Int32)) hx hb dX6_layColumns_63 (by decide) ?_
          exact J_64 _ _ _ _ _ _ _ _ _ (lv_sub hl [0, 1, 2] rfl) hP hD hS hm
        · replace hm := ifn c4 hm
          refine lv_iconst (v := (1 : Int32)) hx hb dX6_layColumns_59 (by decide) ?_
          refine lv_goto (tgt := 64) hx hb dX6_layColumns_60 (by decide) ?_
          exact J_64 _ _ _ _ _ _ _ _ _ (lv_sub hl [0, 1, 2] rfl) hP hD hS hm
      have J_30 : ∀ (v_wide : Int32) (r_column : Nat → Int32) (x1 : Int32) (x2 : Int32) (s0 : Int32) (H : Heap) (locs : List Loc) (ls : Array Slot), lv_has ls 4 [(0, .ref n_t), (1, .int x1), (2, .int x2)] → va_P (dC, dI) vwCl (wd_cc4f82 k n_t n_text n_readPage n_page n_trial n_book n_kept n_isKept n_seenStation n_seenOther n_seenWide n_seenWas n_sines n_at n_column n_gram n_right n_work v_thrown v_textSize v_place v_stations v_readStations v_doings v_seen v_seed v_wide v_up v_low r_column) H → va_D A (wd_cc4f82 k n_t n_text n_readPage n_page n_trial n_book n_kept n_isKept n_seenStation n_seenOther n_seenWide n_seenWas n_sines n_at n_column n_gram n_right n_work v_thrown v_textSize v_place v_stations v_readStations v_doings v_seen v_seed v_wide v_up v_low r_column) → va_S A s.heap H locs → f_X6_layColumns_J30 F (f_X6_layColumns_L7 F n7) v_wide r_column x1 x2 s0 = some (o_v_wide, o_r_column) → W p l e rm_X6_layColumns s m args below meth c H locs 0 0 Q (F0 m 30 ls [.int s0]) := by
        intro v_wide r_column x1 x2 s0 H locs ls hl hP hD hS hm
        unfold f_X6_layColumns_J30 at hm
        refine lv_istore_n (lv' := [(3, .int s0), (0, .ref n_t), (1, .int x1), (2, .int x2)]) hx hb dX6_layColumns_30 rfl hl (by decide) rfl (fun ls hl => ?_)
        refine lv_aload_n hx hb dX6_layColumns_31 rfl (lv_at hl 1 rfl) ?_
        refine va_get (D := (dC, dI)) (ci := 6) (v := .ref n_column) (C := RX6) (T := TX6) (N := 28) hx hb hts hinX6 hown hG.1 hP 0 rfl rfl 22 (by decide) k1 (fun _ h9 => h9) rfl dX6_layColumns_32 ?_
        refine lv_iload_n hx hb dX6_layColumns_35 rfl (lv_at hl 3 rfl) ?_
        refine lv_iload_n hx hb dX6_layColumns_36 rfl (lv_at hl 0 rfl) ?_
        refine lv_if_eq (tgt := 47) hx hb dX6_layColumns_37 (by decide) (fun c5 => ?_) (fun c5 => ?_)
        · replace hm := ifp c5 hm
          refine lv_bipush (v := (-9 : Int32)) hx hb dX6_layColumns_47 (by decide) ?_
          exact J_49 _ _ _ _ _ _ _ _ _ _ (lv_sub hl [1, 2, 3, 0] rfl) hP hD hS hm
        · replace hm := ifn c5 hm
          refine lv_aload_n hx hb dX6_layColumns_40 rfl (lv_at hl 1 rfl) ?_
          refine va_get (D := (dC, dI)) (ci := 6) (v := .int v_wide) (C := RX6) (T := TX6) (N := 28) hx hb hts hinX6 hown hG.1 hP 0 rfl rfl 21 (by decide) k0 (fun _ h9 => h9) rfl dX6_layColumns_41 ?_
          refine lv_goto (tgt := 49) hx hb dX6_layColumns_44 (by decide) ?_
          exact J_49 _ _ _ _ _ _ _ _ _ _ (lv_sub hl [1, 2, 3, 0] rfl) hP hD hS hm
      have J_29 : ∀ (v_wide : Int32) (r_column : Nat → Int32) (x1 : Int32) (x2 : Int32) (H : Heap) (locs : List Loc) (ls : Array Slot), lv_has ls 4 [(0, .ref n_t), (1, .int x1), (2, .int x2)] → va_P (dC, dI) vwCl (wd_cc4f82 k n_t n_text n_readPage n_page n_trial n_book n_kept n_isKept n_seenStation n_seenOther n_seenWide n_seenWas n_sines n_at n_column n_gram n_right n_work v_thrown v_textSize v_place v_stations v_readStations v_doings v_seen v_seed v_wide v_up v_low r_column) H → va_D A (wd_cc4f82 k n_t n_text n_readPage n_page n_trial n_book n_kept n_isKept n_seenStation n_seenOther n_seenWide n_seenWas n_sines n_at n_column n_gram n_right n_work v_thrown v_textSize v_place v_stations v_readStations v_doings v_seen v_seed v_wide v_up v_low r_column) → va_S A s.heap H locs → f_X6_layColumns_J29 F (f_X6_layColumns_L7 F n7) v_wide r_column x1 x2 = some (o_v_wide, o_r_column) → W p l e rm_X6_layColumns s m args below meth c H locs 0 0 Q (F0 m 29 ls []) := by
        intro v_wide r_column x1 x2 H locs ls hl hP hD hS hm
        unfold f_X6_layColumns_J29 at hm
        refine lv_iconst (v := (0 : Int32)) hx hb dX6_layColumns_29 (by decide) ?_
        exact J_30 _ _ _ _ _ _ _ _ (lv_sub hl [0, 1, 2] rfl) hP hD hS hm
      intro v_wide r_column x1 x2 H locs ls hl hP hD hS hm
      replace hm : f_X6_layColumns_B7 F (f_X6_layColumns_L7 F n7) v_wide r_column x1 x2 = some (o_v_wide, o_r_column) := hm
      unfold f_X6_layColumns_B7 at hm
      refine lv_iload_n hx hb dX6_layColumns_7 rfl (lv_at hl 2 rfl) ?_
      refine lv_bipush (v := (6 : Int32)) hx hb dX6_layColumns_8 (by decide) ?_
      refine lv_icmp_ge (tgt := 74) hx hb dX6_layColumns_10 (by decide) (fun c6 => ?_) (fun c6 => ?_)
      · replace hm := ifp c6 hm
        exact RET _ _ _ _ _ _ dX6_layColumns_74 hm hP hD hS
      · replace hm := ifn c6 hm
        refine lv_iload_n hx hb dX6_layColumns_13 rfl (lv_at hl 2 rfl) ?_
        refine lv_if_le (tgt := 29) hx hb dX6_layColumns_14 (by decide) (fun c7 => ?_) (fun c7 => ?_)
        · replace hm := ifp c7 hm
          exact J_29 _ _ _ _ _ _ _ (lv_sub hl [0, 1, 2] rfl) hP hD hS hm
        · replace hm := ifn c7 hm
          refine lv_iload_n hx hb dX6_layColumns_17 rfl (lv_at hl 1 rfl) ?_
          refine lv_iload_n hx hb dX6_layColumns_18 rfl (lv_at hl 2 rfl) ?_
          obtain ⟨r8, e9, hm⟩ := bnd1_some hm
          refine g_calli (w2 := (wd_cc4f82 k n_t n_text n_readPage n_page n_trial n_book n_kept n_isKept n_seenStation n_seenOther n_seenWide n_seenWas n_sines n_at n_column n_gram n_right n_work v_thrown v_textSize v_place v_stations v_readStations v_doings v_seen v_seed v_wide v_up v_low r_column)) (va_runS (As := [.int x1, .int x2]) (rest := []) ⟨hx, hb, hml, hown, hts⟩ (m_X6_has l dC dI k H.size  x1 x2 e9) (va_cwS 2 hts gX6_layColumns_X6_has rfl rfl rfl (by decide +kernel) ⟨Nat.le_of_ble_eq_true rfl, Nat.le_of_ble_eq_true rfl⟩) (g_preS hG hP hD hS hA [] rfl (by decide)) rfl rfl hl.1 rfl (lv_room (Nat.le_of_ble_eq_true rfl)) dX6_layColumns_19 ⟨Nat.le_of_ble_eq_true rfl, Nat.le_of_ble_eq_true rfl⟩) hP hD hS hA [] [0, 1] [0, 1] rfl rfl (by decide) (by decide) rfl (by decide) (fun H locs hP hD hS => ?_)
          refine lv_if_eq (tgt := 29) hx hb dX6_layColumns_22 (by decide) (fun c10 => ?_) (fun c10 => ?_)
          · replace hm := ifp c10 hm
            exact J_29 _ _ _ _ _ _ _ (lv_sub hl [0, 1, 2] rfl) hP hD hS hm
          · replace hm := ifn c10 hm
            refine lv_iconst (v := (1 : Int32)) hx hb dX6_layColumns_25 (by decide) ?_
            refine lv_goto (tgt := 30) hx hb dX6_layColumns_26 (by decide) ?_
            exact J_30 _ _ _ _ _ _ _ _ (lv_sub hl [0, 1, 2] rfl) hP hD hS hm
  unfold f_X6_layColumns at hm
  refine lv_aload_n hx hb dX6_layColumns_0 rfl (lv_at hl 0 rfl) ?_
  refine lv_iconst (v := (0 : Int32)) hx hb dX6_layColumns_1 (by decide) ?_
  refine va_put (D := (dC, dI)) (ci := 6) (v := .int (0 : Int32)) (ty := .int) (C := RX6) (T := TX6) (N := 28) hx hb hts hinX6 tyX6 tyX6_ok nmX6 hown hG.1 hP hD hS 0 rfl rfl 21 (by decide) k0 (fun _ h9 => h9) rfl (by decide +kernel) rfl rfl (Nat.le_of_ble_eq_true rfl) dX6_layColumns_2 (fun H locs hP hD hS => ?_)
  replace hP : va_P (dC, dI) vwCl (wd_cc4f82 k n_t n_text n_readPage n_page n_trial n_book n_kept n_isKept n_seenStation n_seenOther n_seenWide n_seenWas n_sines n_at n_column n_gram n_right n_work v_thrown v_textSize v_place v_stations v_readStations v_doings v_seen v_seed (0 : Int32) v_up v_low r_column) H := hP
  replace hD : va_D A (wd_cc4f82 k n_t n_text n_readPage n_page n_trial n_book n_kept n_isKept n_seenStation n_seenOther n_seenWide n_seenWas n_sines n_at n_column n_gram n_right n_work v_thrown v_textSize v_place v_stations v_readStations v_doings v_seen v_seed (0 : Int32) v_up v_low r_column) := hD
  refine lv_iconst (v := (0 : Int32)) hx hb dX6_layColumns_5 (by decide) ?_
  refine lv_istore_n (lv' := [(2, .int (0 : Int32)), (0, .ref n_t), (1, .int x1)]) hx hb dX6_layColumns_6 rfl hl (by decide) rfl (fun ls hl => ?_)
  exact L_7 F _ _ _ _ _ _ _ (lv_sub hl [1, 2, 0] rfl) hP hD hS hm
set_option maxRecDepth 100000 in
theorem m_X6_layColumns (l : Launch) (dC : Nat → ClassId) (dI : Nat → Nat → Nat) (k : Nat → ClassId) (F : Nat) (sz : Nat) (n_t n_text n_readPage n_page n_trial n_book n_kept n_isKept n_seenStation n_seenOther n_seenWide n_seenWas n_sines n_at n_column n_gram n_right n_work : Nat) (v_thrown : Int32) (v_textSize : Int32) (v_place : Int32) (v_stations : Int32) (v_readStations : Int32) (v_doings : Int32) (v_seen : Int32) (v_seed : Int64) (v_wide : Int32) (v_up : Int64) (v_low : Int64) (r_column : Nat → Int32) (x1 : Int32) {o_v_wide : (Int32)} {o_r_column : (Nat → Int32)} (hm : f_X6_layColumns F x1 v_wide r_column = some (o_v_wide, o_r_column)) : Met l yX6_layColumns wsX6_layColumns rm_X6_layColumns (gPre dC dI k [.ref n_t, .int x1] sz (wd_cc4f82 k n_t n_text n_readPage n_page n_trial n_book n_kept n_isKept n_seenStation n_seenOther n_seenWide n_seenWas n_sines n_at n_column n_gram n_right n_work v_thrown v_textSize v_place v_stations v_readStations v_doings v_seen v_seed v_wide v_up v_low r_column)) (gQV dC dI (va_A (wd_cc4f82 k n_t n_text n_readPage n_page n_trial n_book n_kept n_isKept n_seenStation n_seenOther n_seenWide n_seenWas n_sines n_at n_column n_gram n_right n_work v_thrown v_textSize v_place v_stations v_readStations v_doings v_seen v_seed v_wide v_up v_low r_column) sz) (wd_cc4f82 k n_t n_text n_readPage n_page n_trial n_book n_kept n_isKept n_seenStation n_seenOther n_seenWide n_seenWas n_sines n_at n_column n_gram n_right n_work v_thrown v_textSize v_place v_stations v_readStations v_doings v_seen v_seed o_v_wide v_up v_low o_r_column)) 0 0 (va_A (wd_cc4f82 k n_t n_text n_readPage n_page n_trial n_book n_kept n_isKept n_seenStation n_seenOther n_seenWide n_seenWas n_sines n_at n_column n_gram n_right n_work v_thrown v_textSize v_place v_stations v_readStations v_doings v_seen v_seed v_wide v_up v_low r_column) sz) := by
  refine g_entry (cc := cX6_layColumns) (maxL := 4) (ret := none) (lv := [(0, .ref n_t), (1, .int x1)]) (by decide +kernel) rfl (Nat.le_of_ble_eq_true rfl) rfl (fun p e s m below meth c ls hx hb hr hml hts hown hlk hnm hsz hG hA hP hD hS hl => ?_)
  exact k_X6_layColumns hx hb hml hts hown hG hA F n_t n_text n_readPage n_page n_trial n_book n_kept n_isKept n_seenStation n_seenOther n_seenWide n_seenWas n_sines n_at n_column n_gram n_right n_work v_thrown v_textSize v_place v_stations v_readStations v_doings v_seen v_seed v_wide v_up v_low r_column x1 o_v_wide o_r_column (fun pc H locs ls q_v_wide q_r_column hd ho hP hD hS => by cases ho; exact g_vret hx hb hr hlk hP hD hS hd) s.heap [] ls hl hP hD hS hm
end
section
set_option maxHeartbeats 4000000 in
set_option maxRecDepth 100000 in
theorem k_X6_layGram {p : Program} {l : Launch} {e : Env} {s : State} {m : MethodId} {args : Array Value} {below : List Frame} {meth : Method} {c : Code} {A : Nat → Prop} {Q : State → Prop} {dC : Nat → ClassId} {dI : Nat → Nat → Nat} {k : Nat → ClassId} (hx : p.tables.exec = Jvm.exec) (hb : c.code = cX6_layGram) (hml : c.maxLocals = 9) (hts : ∀ w ∈ wsX6_layGram, w.before args s = true) (hown : s.vm.findClass RX6 = some m.cls) (hG : gK dC dI k A s) (hA : ∀ q : Nat, s.heap.size ≤ q → A q) (F : Nat) (n_t n_p1 n_text n_readPage n_page n_trial n_book n_kept n_isKept n_seenStation n_seenOther n_seenWide n_seenWas n_sines n_at n_column n_gram n_right n_work : Nat) (v_thrown : Int32) (v_textSize : Int32) (v_place : Int32) (v_stations : Int32) (v_readStations : Int32) (v_doings : Int32) (v_seen : Int32) (v_seed : Int64) (v_wide : Int32) (v_up : Int64) (v_low : Int64) (r_sines : Nat → Int32) (r_column : Nat → Int32) (r_gram : Nat → Int64) (r_right : Nat → Int64) (r_p1 : Nat → Int32) (x2 : Int32) (x3 : Int32) (x4 : Int32) (o_v_wide : (Int32)) (o_r_column : (Nat → Int32)) (o_r_gram : (Nat → Int64)) (o_r_right : (Nat → Int64)) (RET : ∀ (pc : Nat) (H : Heap) (locs : List Loc) (ls : Array Slot) (q_v_wide : Int32) (q_r_column : Nat → Int32) (q_r_gram : Nat → Int64) (q_r_right : Nat → Int64), decode cX6_layGram pc = .ok (.return_, 1) → some (q_v_wide, q_r_column, q_r_gram, q_r_right) = some (o_v_wide, o_r_column, o_r_gram, o_r_right) → va_P (dC, dI) vwCl (wd_537c0b k n_t n_p1 n_text n_readPage n_page n_trial n_book n_kept n_isKept n_seenStation n_seenOther n_seenWide n_seenWas n_sines n_at n_column n_gram n_right n_work v_thrown v_textSize v_place v_stations v_readStations v_doings v_seen v_seed q_v_wide v_up v_low r_sines q_r_column q_r_gram q_r_right r_p1) H → va_D A (wd_537c0b k n_t n_p1 n_text n_readPage n_page n_trial n_book n_kept n_isKept n_seenStation n_seenOther n_seenWide n_seenWas n_sines n_at n_column n_gram n_right n_work v_thrown v_textSize v_place v_stations v_readStations v_doings v_seen v_seed q_v_wide v_up v_low r_sines q_r_column q_r_gram q_r_right r_p1) → va_S A s.heap H locs → W p l e rm_X6_layGram s m args below meth c H locs 0 0 Q (F0 m pc ls [])) (H : Heap) (locs : List Loc) (ls : Array Slot) (hl : lv_has ls 9 [(0, .ref n_t), (1, .ref n_p1), (2, .int x2), (3, .int x3), (4, .int x4)]) (hP : va_P (dC, dI) vwCl (wd_537c0b k n_t n_p1 n_text n_readPage n_page n_trial n_book n_kept n_isKept n_seenStation n_seenOther n_seenWide n_seenWas n_sines n_at n_column n_gram n_right n_work v_thrown v_textSize v_place v_stations v_readStations v_doings v_seen v_seed v_wide v_up v_low r_sines r_column r_gram r_right r_p1) H) (hD : va_D A (wd_537c0b k n_t n_p1 n_text n_readPage n_page n_trial n_book n_kept n_isKept n_seenStation n_seenOther n_seenWide n_seenWas n_sines n_at n_column n_gram n_right n_work v_thrown v_textSize v_place v_stations v_readStations v_doings v_seen v_seed v_wide v_up v_low r_sines r_column r_gram r_right r_p1)) (hS : va_S A s.heap H locs) (hm : f_X6_layGram F x2 x3 x4 v_wide r_sines r_column r_gram r_right r_p1 = some (o_v_wide, o_r_column, o_r_gram, o_r_right)) : W p l e rm_X6_layGram s m args below meth c H locs 0 0 Q (F0 m 0 ls []) := by
  have hinX6 : ∀ w ∈ u_ws RX6 TX6 28, w ∈ wsX6_layGram := by decide +kernel
  have k0 := hts (.fieldLink RX6 57 "CaveLegsModel" "gram" "[J") (by decide +kernel)
  have k1 := hts (.fieldLink RX6 61 "CaveLegsModel" "right" "[J") (by decide +kernel)
  have k2 := hts (.fieldLink RX6 54 "CaveLegsModel" "column" "[I") (by decide +kernel)
  have L_55 : ∀ (n55 : Nat) (v_wide : Int32) (r_column : Nat → Int32) (r_gram : Nat → Int64) (r_right : Nat → Int64) (x2 : Int32) (x3 : Int32) (x4 : Int32) (x5 : Int32) (H : Heap) (locs : List Loc) (ls : Array Slot), lv_has ls 9 [(0, .ref n_t), (1, .ref n_p1), (2, .int x2), (3, .int x3), (4, .int x4), (5, .int x5)] → va_P (dC, dI) vwCl (wd_537c0b k n_t n_p1 n_text n_readPage n_page n_trial n_book n_kept n_isKept n_seenStation n_seenOther n_seenWide n_seenWas n_sines n_at n_column n_gram n_right n_work v_thrown v_textSize v_place v_stations v_readStations v_doings v_seen v_seed v_wide v_up v_low r_sines r_column r_gram r_right r_p1) H → va_D A (wd_537c0b k n_t n_p1 n_text n_readPage n_page n_trial n_book n_kept n_isKept n_seenStation n_seenOther n_seenWide n_seenWas n_sines n_at n_column n_gram n_right n_work v_thrown v_textSize v_place v_stations v_readStations v_doings v_seen v_seed v_wide v_up v_low r_sines r_column r_gram r_right r_p1) → va_S A s.heap H locs → f_X6_layGram_L55 F r_sines r_p1 n55 v_wide r_column r_gram r_right x2 x3 x4 x5 = some (o_v_wide, o_r_column, o_r_gram, o_r_right) → W p l e rm_X6_layGram s m args below meth c H locs 0 0 Q (F0 m 55 ls []) := by
    intro n55
    induction n55 with
    | zero =>
      intro v_wide r_column r_gram r_right x2 x3 x4 x5 H locs ls hl hP hD hS hm
      exact non_some hm
    | succ n55 ih55 =>
      have J_240 : ∀ (v_wide : Int32) (r_column : Nat → Int32) (r_gram : Nat → Int64) (r_right : Nat → Int64) (x2 : Int32) (x3 : Int32) (x4 : Int32) (x5 : Int32) (H : Heap) (locs : List Loc) (ls : Array Slot), lv_has ls 9 [(0, .ref n_t), (1, .ref n_p1), (2, .int x2), (3, .int x3), (4, .int x4), (5, .int x5)] → va_P (dC, dI) vwCl (wd_537c0b k n_t n_p1 n_text n_readPage n_page n_trial n_book n_kept n_isKept n_seenStation n_seenOther n_seenWide n_seenWas n_sines n_at n_column n_gram n_right n_work v_thrown v_textSize v_place v_stations v_readStations v_doings v_seen v_seed v_wide v_up v_low r_sines r_column r_gram r_right r_p1) H → va_D A (wd_537c0b k n_t n_p1 n_text n_readPage n_page n_trial n_book n_kept n_isKept n_seenStation n_seenOther n_seenWide n_seenWas n_sines n_at n_column n_gram n_right n_work v_thrown v_textSize v_place v_stations v_readStations v_doings v_seen v_seed v_wide v_up v_low r_sines r_column r_gram r_right r_p1) → va_S A s.heap H locs → f_X6_layGram_J240 F r_sines r_p1 (f_X6_layGram_L55 F r_sines r_p1 n55) v_wide r_column r_gram r_right x2 x3 x4 x5 = some (o_v_wide, o_r_column, o_r_gram, o_r_right) → W p l e rm_X6_layGram s m args below meth c H locs 0 0 Q (F0 m 240 ls []) := by
        intro v_wide r_column r_gram r_right x2 x3 x4 x5 H locs ls hl hP hD hS hm
        unfold f_X6_layGram_J240 at hm
        obtain ⟨t1, et1⟩ : ∃ y : Int32, y = x5 + (1 : Int32) := ⟨_, rfl⟩
        replace hm := (nmd_eq et1).trans hm
        refine lv_iinc (v := t1) (lv' := [(5, .int t1), (0, .ref n_t), (1, .ref n_p1), (2, .int x2), (3, .int x3), (4, .int x4)]) hx hb dX6_layGram_240 hl (k := 5) rfl (by rw [et1]; rfl) (by decide) rfl (fun ls hl => ?_)
        refine lv_goto (tgt := 55) hx hb dX6_layGram_243 (by decide) ?_
        exact ih55 _ _ _ _ _ _ _ _ _ _ _ (lv_sub hl [1, 2, 3, 4, 5, 0] rfl) hP hD hS hm
      have J_194 : ∀ (v_wide : Int32) (r_column : Nat → Int32) (r_gram : Nat → Int64) (r_right : Nat → Int64) (x2 : Int32) (x3 : Int32) (x4 : Int32) (x5 : Int32) (x6 : Int32) (x7 : Int32) (H : Heap) (locs : List Loc) (ls : Array Slot), lv_has ls 9 [(0, .ref n_t), (1, .ref n_p1), (2, .int x2), (3, .int x3), (4, .int x4), (5, .int x5), (6, .int x6), (7, .int x7)] → va_P (dC, dI) vwCl (wd_537c0b k n_t n_p1 n_text n_readPage n_page n_trial n_book n_kept n_isKept n_seenStation n_seenOther n_seenWide n_seenWas n_sines n_at n_column n_gram n_right n_work v_thrown v_textSize v_place v_stations v_readStations v_doings v_seen v_seed v_wide v_up v_low r_sines r_column r_gram r_right r_p1) H → va_D A (wd_537c0b k n_t n_p1 n_text n_readPage n_page n_trial n_book n_kept n_isKept n_seenStation n_seenOther n_seenWide n_seenWas n_sines n_at n_column n_gram n_right n_work v_thrown v_textSize v_place v_stations v_readStations v_doings v_seen v_seed v_wide v_up v_low r_sines r_column r_gram r_right r_p1) → va_S A s.heap H locs → f_X6_layGram_J194 F r_sines r_p1 (f_X6_layGram_L55 F r_sines r_p1 n55) v_wide r_column r_gram r_right x2 x3 x4 x5 x6 x7 = some (o_v_wide, o_r_column, o_r_gram, o_r_right) → W p l e rm_X6_layGram s m args below meth c H locs 0 0 Q (F0 m 194 ls []) := by
        intro v_wide r_column r_gram r_right x2 x3 x4 x5 x6 x7 H locs ls hl hP hD hS hm
        unfold f_X6_layGram_J194 at hm
        refine lv_iload hx hb dX6_layGram_194 (lv_at hl 6 rfl) ?_
        refine lv_bipush (v := (-9 : Int32)) hx hb dX6_layGram_196 (by decide) ?_
        refine lv_icmp_eq (tgt := 240) hx hb dX6_layGram_198 (by decide) (fun c2 => ?_) (fun c2 => ?_)
        · replace hm := ifp c2 hm
          exact J_240 _ _ _ _ _ _ _ _ _ _ _ (lv_sub hl [0, 1, 2, 3, 4, 5] rfl) hP hD hS hm
        · replace hm := ifn c2 hm
          refine lv_iload hx hb dX6_layGram_201 (lv_at hl 7 rfl) ?_
          refine lv_bipush (v := (-9 : Int32)) hx hb dX6_layGram_203 (by decide) ?_
          refine lv_icmp_eq (tgt := 240) hx hb dX6_layGram_205 (by decide) (fun c3 => ?_) (fun c3 => ?_)
          · replace hm := ifp c3 hm
            exact J_240 _ _ _ _ _ _ _ _ _ _ _ (lv_sub hl [0, 1, 2, 3, 4, 5] rfl) hP hD hS hm
          · replace hm := ifn c3 hm
            refine lv_aload_n hx hb dX6_layGram_208 rfl (lv_at hl 0 rfl) ?_
            refine va_get (D := (dC, dI)) (ci := 6) (v := .ref n_gram) (C := RX6) (T := TX6) (N := 28) hx hb hts hinX6 hown hG.1 hP 0 rfl rfl 23 (by decide) k0 (fun _ h9 => h9) rfl dX6_layGram_209 ?_
            refine lv_iconst (v := (5 : Int32)) hx hb dX6_layGram_212 (by decide) ?_
            refine lv_iload hx hb dX6_layGram_213 (lv_at hl 6 rfl) ?_
            refine lv_imul hx hb dX6_layGram_215 ?_
            refine lv_iload hx hb dX6_layGram_216 (lv_at hl 7 rfl) ?_
            refine lv_iadd hx hb dX6_layGram_218 ?_
            refine lv_topi (fun t4 et4 => ?_)
            replace hm := (nmd_eq et4).trans hm
            refine lv_dup2_11 hx hb dX6_layGram_219 rfl rfl ?_
            obtain ⟨hi5, hm⟩ := chk_some hm
            refine va_lald hx hb hG.1 hP 3 1 rfl rfl hi5 dX6_layGram_220 ?_
            refine lv_lconst (v := (1 : Int64)) hx hb dX6_layGram_221 (by decide) ?_
            refine lv_lsub hx hb dX6_layGram_222 ?_
            refine lv_topl (fun t6 et6 => ?_)
            replace hm := (nmd_eq et6).trans hm
            obtain ⟨hi7, hm⟩ := chk_some hm
            refine va_last hx hb hG.1 hP hD hS 3 1 rfl rfl hi7 dX6_layGram_223 (fun H locs hP hD hS => ?_)
            replace hP : va_P (dC, dI) vwCl (wd_537c0b k n_t n_p1 n_text n_readPage n_page n_trial n_book n_kept n_isKept n_seenStation n_seenOther n_seenWide n_seenWas n_sines n_at n_column n_gram n_right n_work v_thrown v_textSize v_place v_stations v_readStations v_doings v_seen v_seed v_wide v_up v_low r_sines r_column (vp_updL r_gram (Int32.toNatClampNeg t4) t6) r_right r_p1) H := hP
            replace hD : va_D A (wd_537c0b k n_t n_p1 n_text n_readPage n_page n_trial n_book n_kept n_isKept n_seenStation n_seenOther n_seenWide n_seenWas n_sines n_at n_column n_gram n_right n_work v_thrown v_textSize v_place v_stations v_readStations v_doings v_seen v_seed v_wide v_up v_low r_sines r_column (vp_updL r_gram (Int32.toNatClampNeg t4) t6) r_right r_p1) := hD
            refine lv_aload_n hx hb dX6_layGram_224 rfl (lv_at hl 0 rfl) ?_
            refine va_get (D := (dC, dI)) (ci := 6) (v := .ref n_gram) (C := RX6) (T := TX6) (N := 28) hx hb hts hinX6 hown hG.1 hP 0 rfl rfl 23 (by decide) k0 (fun _ h9 => h9) rfl dX6_layGram_225 ?_
            refine lv_iconst (v := (5 : Int32)) hx hb dX6_layGram_228 (by decide) ?_
            refine lv_iload hx hb dX6_layGram_229 (lv_at hl 7 rfl) ?_
            refine lv_imul hx hb dX6_layGram_231 ?_
            refine lv_iload hx hb dX6_layGram_232 (lv_at hl 6 rfl) ?_
            refine lv_iadd hx hb dX6_layGram_234 ?_
            refine lv_topi (fun t8 et8 => ?_)
            replace hm := (nmd_eq et8).trans hm
            refine lv_dup2_11 hx hb dX6_layGram_235 rfl rfl ?_
            obtain ⟨hi9, hm⟩ := chk_some hm
            refine va_lald hx hb hG.1 hP 3 1 rfl rfl hi9 dX6_layGram_236 ?_
            refine lv_lconst (v := (1 : Int64)) hx hb dX6_layGram_237 (by decide) ?_
            refine lv_lsub hx hb dX6_layGram_238 ?_
            refine lv_topl (fun t10 et10 => ?_)
            replace hm := (nmd_eq et10).trans hm
            obtain ⟨hi11, hm⟩ := chk_some hm
            refine va_last hx hb hG.1 hP hD hS 3 1 rfl rfl hi11 dX6_layGram_239 (fun H locs hP hD hS => ?_)
            replace hP : va_P (dC, dI) vwCl (wd_537c0b k n_t n_p1 n_text n_readPage n_page n_trial n_book n_kept n_isKept n_seenStation n_seenOther n_seenWide n_seenWas n_sines n_at n_column n_gram n_right n_work v_thrown v_textSize v_place v_stations v_readStations v_doings v_seen v_seed v_wide v_up v_low r_sines r_column (vp_updL (vp_updL r_gram (Int32.toNatClampNeg t4) t6) (Int32.toNatClampNeg t8) t10) r_right r_p1) H := hP
            replace hD : va_D A (wd_537c0b k n_t n_p1 n_text n_readPage n_page n_trial n_book n_kept n_isKept n_seenStation n_seenOther n_seenWide n_seenWas n_sines n_at n_column n_gram n_right n_work v_thrown v_textSize v_place v_stations v_readStations v_doings v_seen v_seed v_wide v_up v_low r_sines r_column (vp_updL (vp_updL r_gram (Int32.toNatClampNeg t4) t6) (Int32.toNatClampNeg t8) t10) r_right r_p1) := hD
            exact J_240 _ _ _ _ _ _ _ _ _ _ _ (lv_sub hl [0, 1, 2, 3, 4, 5] rfl) hP hD hS hm
      have J_158 : ∀ (v_wide : Int32) (r_column : Nat → Int32) (r_gram : Nat → Int64) (r_right : Nat → Int64) (x2 : Int32) (x3 : Int32) (x4 : Int32) (x5 : Int32) (x6 : Int32) (x7 : Int32) (x8 : Int32) (H : Heap) (locs : List Loc) (ls : Array Slot), lv_has ls 9 [(0, .ref n_t), (1, .ref n_p1), (2, .int x2), (3, .int x3), (4, .int x4), (5, .int x5), (6, .int x6), (7, .int x7), (8, .int x8)] → va_P (dC, dI) vwCl (wd_537c0b k n_t n_p1 n_text n_readPage n_page n_trial n_book n_kept n_isKept n_seenStation n_seenOther n_seenWide n_seenWas n_sines n_at n_column n_gram n_right n_work v_thrown v_textSize v_place v_stations v_readStations v_doings v_seen v_seed v_wide v_up v_low r_sines r_column r_gram r_right r_p1) H → va_D A (wd_537c0b k n_t n_p1 n_text n_readPage n_page n_trial n_book n_kept n_isKept n_seenStation n_seenOther n_seenWide n_seenWas n_sines n_at n_column n_gram n_right n_work v_thrown v_textSize v_place v_stations v_readStations v_doings v_seen v_seed v_wide v_up v_low r_sines r_column r_gram r_right r_p1) → va_S A s.heap H locs → f_X6_layGram_J158 F r_sines r_p1 (f_X6_layGram_L55 F r_sines r_p1 n55) v_wide r_column r_gram r_right x2 x3 x4 x5 x6 x7 x8 = some (o_v_wide, o_r_column, o_r_gram, o_r_right) → W p l e rm_X6_layGram s m args below meth c H locs 0 0 Q (F0 m 158 ls []) := by
        intro v_wide r_column r_gram r_right x2 x3 x4 x5 x6 x7 x8 H locs ls hl hP hD hS hm
        unfold f_X6_layGram_J158 at hm
        refine lv_iload hx hb dX6_layGram_158 (lv_at hl 7 rfl) ?_
        refine lv_bipush (v := (-9 : Int32)) hx hb dX6_layGram_160 (by decide) ?_
        refine lv_icmp_eq (tgt := 194) hx hb dX6_layGram_162 (by decide) (fun c12 => ?_) (fun c12 => ?_)
        · replace hm := ifp c12 hm
          exact J_194 _ _ _ _ _ _ _ _ _ _ _ _ _ (lv_sub hl [0, 1, 2, 3, 4, 5, 6, 7] rfl) hP hD hS hm
        · replace hm := ifn c12 hm
          refine lv_aload_n hx hb dX6_layGram_165 rfl (lv_at hl 0 rfl) ?_
          refine va_get (D := (dC, dI)) (ci := 6) (v := .ref n_gram) (C := RX6) (T := TX6) (N := 28) hx hb hts hinX6 hown hG.1 hP 0 rfl rfl 23 (by decide) k0 (fun _ h9 => h9) rfl dX6_layGram_166 ?_
          refine lv_iconst (v := (5 : Int32)) hx hb dX6_layGram_169 (by decide) ?_
          refine lv_iload hx hb dX6_layGram_170 (lv_at hl 7 rfl) ?_
          refine lv_imul hx hb dX6_layGram_172 ?_
          refine lv_iload hx hb dX6_layGram_173 (lv_at hl 7 rfl) ?_
          refine lv_iadd hx hb dX6_layGram_175 ?_
          refine lv_topi (fun t13 et13 => ?_)
          replace hm := (nmd_eq et13).trans hm
          refine lv_dup2_11 hx hb dX6_layGram_176 rfl rfl ?_
          obtain ⟨hi14, hm⟩ := chk_some hm
          refine va_lald hx hb hG.1 hP 3 1 rfl rfl hi14 dX6_layGram_177 ?_
          refine lv_lconst (v := (1 : Int64)) hx hb dX6_layGram_178 (by decide) ?_
          refine lv_ladd hx hb dX6_layGram_179 ?_
          refine lv_topl (fun t15 et15 => ?_)
          replace hm := (nmd_eq et15).trans hm
          obtain ⟨hi16, hm⟩ := chk_some hm
          refine va_last hx hb hG.1 hP hD hS 3 1 rfl rfl hi16 dX6_layGram_180 (fun H locs hP hD hS => ?_)
          replace hP : va_P (dC, dI) vwCl (wd_537c0b k n_t n_p1 n_text n_readPage n_page n_trial n_book n_kept n_isKept n_seenStation n_seenOther n_seenWide n_seenWas n_sines n_at n_column n_gram n_right n_work v_thrown v_textSize v_place v_stations v_readStations v_doings v_seen v_seed v_wide v_up v_low r_sines r_column (vp_updL r_gram (Int32.toNatClampNeg t13) t15) r_right r_p1) H := hP
          replace hD : va_D A (wd_537c0b k n_t n_p1 n_text n_readPage n_page n_trial n_book n_kept n_isKept n_seenStation n_seenOther n_seenWide n_seenWas n_sines n_at n_column n_gram n_right n_work v_thrown v_textSize v_place v_stations v_readStations v_doings v_seen v_seed v_wide v_up v_low r_sines r_column (vp_updL r_gram (Int32.toNatClampNeg t13) t15) r_right r_p1) := hD
          refine lv_aload_n hx hb dX6_layGram_181 rfl (lv_at hl 0 rfl) ?_
          refine va_get (D := (dC, dI)) (ci := 6) (v := .ref n_right) (C := RX6) (T := TX6) (N := 28) hx hb hts hinX6 hown hG.1 hP 0 rfl rfl 24 (by decide) k1 (fun _ h9 => h9) rfl dX6_layGram_182 ?_
          refine lv_iload hx hb dX6_layGram_185 (lv_at hl 7 rfl) ?_
          refine lv_dup2_11 hx hb dX6_layGram_187 rfl rfl ?_
          obtain ⟨hi17, hm⟩ := chk_some hm
          refine va_lald hx hb hG.1 hP 4 1 rfl rfl hi17 dX6_layGram_188 ?_
          refine lv_iload hx hb dX6_layGram_189 (lv_at hl 8 rfl) ?_
          refine g_i2l hx hb dX6_layGram_191 ?_
          refine lv_ladd hx hb dX6_layGram_192 ?_
          refine lv_topl (fun t18 et18 => ?_)
          replace hm := (nmd_eq et18).trans hm
          obtain ⟨hi19, hm⟩ := chk_some hm
          refine va_last hx hb hG.1 hP hD hS 4 1 rfl rfl hi19 dX6_layGram_193 (fun H locs hP hD hS => ?_)
          replace hP : va_P (dC, dI) vwCl (wd_537c0b k n_t n_p1 n_text n_readPage n_page n_trial n_book n_kept n_isKept n_seenStation n_seenOther n_seenWide n_seenWas n_sines n_at n_column n_gram n_right n_work v_thrown v_textSize v_place v_stations v_readStations v_doings v_seen v_seed v_wide v_up v_low r_sines r_column (vp_updL r_gram (Int32.toNatClampNeg t13) t15) (vp_updL r_right (Int32.toNatClampNeg x7) t18) r_p1) H := hP
          replace hD : va_D A (wd_537c0b k n_t n_p1 n_text n_readPage n_page n_trial n_book n_kept n_isKept n_seenStation n_seenOther n_seenWide n_seenWas n_sines n_at n_column n_gram n_right n_work v_thrown v_textSize v_place v_stations v_readStations v_doings v_seen v_seed v_wide v_up v_low r_sines r_column (vp_updL r_gram (Int32.toNatClampNeg t13) t15) (vp_updL r_right (Int32.toNatClampNeg x7) t18) r_p1) := hD
          exact J_194 _ _ _ _ _ _ _ _ _ _ _ _ _ (lv_sub hl [0, 1, 2, 3, 4, 5, 6, 7] rfl) hP hD hS hm
      intro v_wide r_column r_gram r_right x2 x3 x4 x5 H locs ls hl hP hD hS hm
      replace hm : f_X6_layGram_B55 F r_sines r_p1 (f_X6_layGram_L55 F r_sines r_p1 n55) v_wide r_column r_gram r_right x2 x3 x4 x5 = some (o_v_wide, o_r_column, o_r_gram, o_r_right) := hm
      unfold f_X6_layGram_B55 at hm
      refine lv_iload hx hb dX6_layGram_55 (lv_at hl 5 rfl) ?_
      refine lv_aload_n hx hb dX6_layGram_57 rfl (lv_at hl 1 rfl) ?_
      refine lv_iconst (v := (0 : Int32)) hx hb dX6_layGram_58 (by decide) ?_
      obtain ⟨hi20, hm⟩ := chk_some hm
      refine va_iald hx hb hG.1 hP 5 0 rfl rfl hi20 dX6_layGram_59 ?_
      refine lv_icmp_ge (tgt := 246) hx hb dX6_layGram_60 (by decide) (fun c21 => ?_) (fun c21 => ?_)
      · replace hm := ifp c21 hm
        exact RET _ _ _ _ _ _ _ _ dX6_layGram_246 hm hP hD hS
      · replace hm := ifn c21 hm
        refine lv_iload_n hx hb dX6_layGram_63 rfl (lv_at hl 2 rfl) ?_
        refine lv_iload hx hb dX6_layGram_64 (lv_at hl 5 rfl) ?_
        obtain ⟨r22, e23, hm⟩ := bnd1_some hm
        refine g_calli (w2 := (wd_537c0b k n_t n_p1 n_text n_readPage n_page n_trial n_book n_kept n_isKept n_seenStation n_seenOther n_seenWide n_seenWas n_sines n_at n_column n_gram n_right n_work v_thrown v_textSize v_place v_stations v_readStations v_doings v_seen v_seed v_wide v_up v_low r_sines r_column r_gram r_right r_p1)) (va_runS (As := [.int x2, .int x5]) (rest := []) ⟨hx, hb, hml, hown, hts⟩ (m_X6_has l dC dI k H.size  x2 x5 e23) (va_cwS 2 hts gX6_layGram_X6_has rfl rfl rfl (by decide +kernel) ⟨Nat.le_of_ble_eq_true rfl, Nat.le_of_ble_eq_true rfl⟩) (g_preS hG hP hD hS hA [] rfl (by decide)) rfl rfl hl.1 rfl (lv_room (Nat.le_of_ble_eq_true rfl)) dX6_layGram_66 ⟨Nat.le_of_ble_eq_true rfl, Nat.le_of_ble_eq_true rfl⟩) hP hD hS hA [] [0, 1, 2, 3, 4, 5] [0, 1, 2, 3, 4, 5] rfl rfl (by decide) (by decide) rfl (by decide) (fun H locs hP hD hS => ?_)
        refine lv_if_eq (tgt := 240) hx hb dX6_layGram_69 (by decide) (fun c24 => ?_) (fun c24 => ?_)
        · replace hm := ifp c24 hm
          exact J_240 _ _ _ _ _ _ _ _ _ _ _ (lv_sub hl [0, 1, 2, 3, 4, 5] rfl) hP hD hS hm
        · replace hm := ifn c24 hm
          refine lv_aload_n hx hb dX6_layGram_72 rfl (lv_at hl 0 rfl) ?_
          refine lv_aload_n hx hb dX6_layGram_73 rfl (lv_at hl 1 rfl) ?_
          refine lv_iload hx hb dX6_layGram_74 (lv_at hl 5 rfl) ?_
          refine lv_iload_n hx hb dX6_layGram_76 rfl (lv_at hl 3 rfl) ?_
          obtain ⟨r25, e26, hm⟩ := bnd1_some hm
          refine g_calli (w2 := (wd_537c0b k n_t n_p1 n_text n_readPage n_page n_trial n_book n_kept n_isKept n_seenStation n_seenOther n_seenWide n_seenWas n_sines n_at n_column n_gram n_right n_work v_thrown v_textSize v_place v_stations v_readStations v_doings v_seen v_seed v_wide v_up v_low r_sines r_column r_gram r_right r_p1)) (va_runV (As := [.ref n_p1, .int x5, .int x3]) (rest := []) ⟨hx, hb, hml, hown, hts⟩ (m_X6_isTiedLeg l dC dI k H.size n_t n_p1 n_text n_readPage n_page n_trial n_book n_kept n_isKept n_seenStation n_seenOther n_seenWide n_seenWas n_sines n_at n_column n_gram n_right n_work v_thrown v_textSize v_place v_stations v_readStations v_doings v_seen v_seed v_wide v_up v_low r_p1 x5 x3 e26) (cwV 3 hts gX6_layGram_X6_isTiedLeg rfl rfl rfl (by decide +kernel) ⟨Nat.le_of_ble_eq_true rfl, Nat.le_of_ble_eq_true rfl⟩) (g_preV hG hP hD hS hA [0, 5] rfl (by decide) (ci := 6) (q0 := 0) rfl rfl) rfl rfl hl.1 rfl (lv_room (Nat.le_of_ble_eq_true rfl)) dX6_layGram_77 ⟨Nat.le_of_ble_eq_true rfl, Nat.le_of_ble_eq_true rfl⟩) hP hD hS hA [0, 5] [1, 2, 3, 4] [4, 0, 1, 2, 3, 5] rfl rfl (by decide) (by decide) rfl (by decide) (fun H locs hP hD hS => ?_)
          refine lv_if_eq (tgt := 240) hx hb dX6_layGram_80 (by decide) (fun c27 => ?_) (fun c27 => ?_)
          · replace hm := ifp c27 hm
            exact J_240 _ _ _ _ _ _ _ _ _ _ _ (lv_sub hl [0, 1, 2, 3, 4, 5] rfl) hP hD hS hm
          · replace hm := ifn c27 hm
            refine lv_aload_n hx hb dX6_layGram_83 rfl (lv_at hl 0 rfl) ?_
            refine va_get (D := (dC, dI)) (ci := 6) (v := .ref n_column) (C := RX6) (T := TX6) (N := 28) hx hb hts hinX6 hown hG.1 hP 0 rfl rfl 22 (by decide) k2 (fun _ h9 => h9) rfl dX6_layGram_84 ?_
            refine lv_aload_n hx hb dX6_layGram_87 rfl (lv_at hl 1 rfl) ?_
            refine lv_iload hx hb dX6_layGram_88 (lv_at hl 5 rfl) ?_
            refine lv_iconst (v := (4 : Int32)) hx hb dX6_layGram_90 (by decide) ?_
            obtain ⟨r28, e29, hm⟩ := bnd1_some hm
            refine g_calli (w2 := (wd_537c0b k n_t n_p1 n_text n_readPage n_page n_trial n_book n_kept n_isKept n_seenStation n_seenOther n_seenWide n_seenWas n_sines n_at n_column n_gram n_right n_work v_thrown v_textSize v_place v_stations v_readStations v_doings v_seen v_seed v_wide v_up v_low r_sines r_column r_gram r_right r_p1)) (va_runS (As := [.ref n_p1, .int x5, .int (4 : Int32)]) (rest := [.ref n_column]) ⟨hx, hb, hml, hown, hts⟩ (m_X6_of l dC dI k H.size n_p1 r_p1 x5 (4 : Int32) e29) (va_cwS 3 hts gX6_layGram_X6_of rfl rfl rfl (by decide +kernel) ⟨Nat.le_of_ble_eq_true rfl, Nat.le_of_ble_eq_true rfl⟩) (g_preS hG hP hD hS hA [5] rfl (by decide)) rfl rfl hl.1 rfl (lv_room (Nat.le_of_ble_eq_true rfl)) dX6_layGram_91 ⟨Nat.le_of_ble_eq_true rfl, Nat.le_of_ble_eq_true rfl⟩) hP hD hS hA [5] [0, 1, 2, 3, 4] [0, 1, 2, 3, 4, 5] rfl rfl (by decide) (by decide) rfl (by decide) (fun H locs hP hD hS => ?_)
            obtain ⟨hi30, hm⟩ := chk_some hm
            refine va_iald hx hb hG.1 hP 2 0 rfl rfl hi30 dX6_layGram_94 ?_
            refine lv_topi (fun t31 et31 => ?_)
            replace hm := (nmd_eq et31).trans hm
            refine lv_istore (lv' := [(6, .int t31), (0, .ref n_t), (1, .ref n_p1), (2, .int x2), (3, .int x3), (4, .int x4), (5, .int x5)]) hx hb dX6_layGram_95 hl (by decide) rfl (fun ls hl => ?_)
            refine lv_aload_n hx hb dX6_layGram_97 rfl (lv_at hl 1 rfl) ?_
            refine va_get (D := (dC, dI)) (ci := 6) (v := .ref n_column) (C := RX6) (T := TX6) (N := 28) hx hb hts hinX6 hown hG.1 hP 0 rfl rfl 22 (by decide) k2 (fun _ h9 => h9) rfl dX6_layGram_98 ?_
            refine lv_aload_n hx hb dX6_layGram_101 rfl (lv_at hl 2 rfl) ?_
            refine lv_iload hx hb dX6_layGram_102 (lv_at hl 6 rfl) ?_
            refine lv_iconst (v := (5 : Int32)) hx hb dX6_layGram_104 (by decide) ?_
            obtain ⟨r32, e33, hm⟩ := bnd1_some hm
            refine g_calli (w2 := (wd_537c0b k n_t n_p1 n_text n_readPage n_page n_trial n_book n_kept n_isKept n_seenStation n_seenOther n_seenWide n_seenWas n_sines n_at n_column n_gram n_right n_work v_thrown v_textSize v_place v_stations v_readStations v_doings v_seen v_seed v_wide v_up v_low r_sines r_column r_gram r_right r_p1)) (va_runS (As := [.ref n_p1, .int x5, .int (5 : Int32)]) (rest := [.ref n_column]) ⟨hx, hb, hml, hown, hts⟩ (m_X6_of l dC dI k H.size n_p1 r_p1 x5 (5 : Int32) e33) (va_cwS 3 hts gX6_layGram_X6_of rfl rfl rfl (by decide +kernel) ⟨Nat.le_of_ble_eq_true rfl, Nat.le_of_ble_eq_true rfl⟩) (g_preS hG hP hD hS hA [5] rfl (by decide)) rfl rfl hl.1 rfl (lv_room (Nat.le_of_ble_eq_true rfl)) dX6_layGram_105 ⟨Nat.le_of_ble_eq_true rfl, Nat.le_of_ble_eq_true rfl⟩) hP hD hS hA [5] [0, 1, 2, 3, 4] [0, 1, 2, 3, 4, 5] rfl rfl (by decide) (by decide) rfl (by decide) (fun H locs hP hD hS => ?_)
            obtain ⟨hi34, hm⟩ := chk_some hm
            refine va_iald hx hb hG.1 hP 2 0 rfl rfl hi34 dX6_layGram_108 ?_
            refine lv_topi (fun t35 et35 => ?_)
            replace hm := (nmd_eq et35).trans hm
            refine lv_istore (lv' := [(7, .int t35), (6, .int t31), (0, .ref n_t), (1, .ref n_p1), (2, .int x2), (3, .int x3), (4, .int x4), (5, .int x5)]) hx hb dX6_layGram_109 hl (by decide) rfl (fun ls hl => ?_)
            refine lv_aload_n hx hb dX6_layGram_111 rfl (lv_at hl 2 rfl) ?_
            refine lv_aload_n hx hb dX6_layGram_112 rfl (lv_at hl 3 rfl) ?_
            refine lv_iload hx hb dX6_layGram_113 (lv_at hl 7 rfl) ?_
            refine lv_iload hx hb dX6_layGram_115 (lv_at hl 6 rfl) ?_
            obtain ⟨r36, e37, hm⟩ := bnd1_some hm
            refine g_calli (w2 := (wd_537c0b k n_t n_p1 n_text n_readPage n_page n_trial n_book n_kept n_isKept n_seenStation n_seenOther n_seenWide n_seenWas n_sines n_at n_column n_gram n_right n_work v_thrown v_textSize v_place v_stations v_readStations v_doings v_seen v_seed v_wide v_up v_low r_sines r_column r_gram r_right r_p1)) (va_runV (As := [.ref n_p1, .int x5, .int x4]) (rest := []) ⟨hx, hb, hml, hown, hts⟩ (m_X6_stepOf l dC dI k H.size n_t n_p1 n_text n_readPage n_page n_trial n_book n_kept n_isKept n_seenStation n_seenOther n_seenWide n_seenWas n_sines n_at n_column n_gram n_right n_work v_thrown v_textSize v_place v_stations v_readStations v_doings v_seen v_seed v_wide v_up v_low r_sines r_p1 x5 x4 e37) (cwV 3 hts gX6_layGram_X6_stepOf rfl rfl rfl (by decide +kernel) ⟨Nat.le_of_ble_eq_true rfl, Nat.le_of_ble_eq_true rfl⟩) (g_preV hG hP hD hS hA [0, 1, 5] rfl (by decide) (ci := 6) (q0 := 0) rfl rfl) rfl rfl hl.1 rfl (lv_room (Nat.le_of_ble_eq_true rfl)) dX6_layGram_117 ⟨Nat.le_of_ble_eq_true rfl, Nat.le_of_ble_eq_true rfl⟩) hP hD hS hA [0, 1, 5] [2, 3, 4] [3, 4, 0, 1, 2, 5] rfl rfl (by decide) (by decide) rfl (by decide) (fun H locs hP hD hS => ?_)
            refine lv_istore (lv' := [(8, .int r36), (7, .int t35), (6, .int t31), (0, .ref n_t), (1, .ref n_p1), (2, .int x2), (3, .int x3), (4, .int x4), (5, .int x5)]) hx hb dX6_layGram_120 hl (by decide) rfl (fun ls hl => ?_)
            refine lv_iload hx hb dX6_layGram_122 (lv_at hl 2 rfl) ?_
            refine lv_bipush (v := (-9 : Int32)) hx hb dX6_layGram_124 (by decide) ?_
            refine lv_icmp_eq (tgt := 158) hx hb dX6_layGram_126 (by decide) (fun c38 => ?_) (fun c38 => ?_)
            · replace hm := ifp c38 hm
              exact J_158 _ _ _ _ _ _ _ _ _ _ _ _ _ _ (lv_sub hl [3, 4, 5, 6, 7, 8, 2, 1, 0] rfl) hP hD hS hm
            · replace hm := ifn c38 hm
              refine lv_aload_n hx hb dX6_layGram_129 rfl (lv_at hl 3 rfl) ?_
              refine va_get (D := (dC, dI)) (ci := 6) (v := .ref n_gram) (C := RX6) (T := TX6) (N := 28) hx hb hts hinX6 hown hG.1 hP 0 rfl rfl 23 (by decide) k0 (fun _ h9 => h9) rfl dX6_layGram_130 ?_
              refine lv_iconst (v := (5 : Int32)) hx hb dX6_layGram_133 (by decide) ?_
              refine lv_iload hx hb dX6_layGram_134 (lv_at hl 2 rfl) ?_
              refine lv_imul hx hb dX6_layGram_136 ?_
              refine lv_iload hx hb dX6_layGram_137 (lv_at hl 2 rfl) ?_
              refine lv_iadd hx hb dX6_layGram_139 ?_
              refine lv_topi (fun t39 et39 => ?_)
              replace hm := (nmd_eq et39).trans hm
              refine lv_dup2_11 hx hb dX6_layGram_140 rfl rfl ?_
              obtain ⟨hi40, hm⟩ := chk_some hm
              refine va_lald hx hb hG.1 hP 3 1 rfl rfl hi40 dX6_layGram_141 ?_
              refine lv_lconst (v := (1 : Int64)) hx hb dX6_layGram_142 (by decide) ?_
              refine lv_ladd hx hb dX6_layGram_143 ?_
              refine lv_topl (fun t41 et41 => ?_)
              replace hm := (nmd_eq et41).trans hm
              obtain ⟨hi42, hm⟩ := chk_some hm
              refine va_last hx hb hG.1 hP hD hS 3 1 rfl rfl hi42 dX6_layGram_144 (fun H locs hP hD hS => ?_)
              replace hP : va_P (dC, dI) vwCl (wd_537c0b k n_t n_p1 n_text n_readPage n_page n_trial n_book n_kept n_isKept n_seenStation n_seenOther n_seenWide n_seenWas n_sines n_at n_column n_gram n_right n_work v_thrown v_textSize v_place v_stations v_readStations v_doings v_seen v_seed v_wide v_up v_low r_sines r_column (vp_updL r_gram (Int32.toNatClampNeg t39) t41) r_right r_p1) H := hP
              replace hD : va_D A (wd_537c0b k n_t n_p1 n_text n_readPage n_page n_trial n_book n_kept n_isKept n_seenStation n_seenOther n_seenWide n_seenWas n_sines n_at n_column n_gram n_right n_work v_thrown v_textSize v_place v_stations v_readStations v_doings v_seen v_seed v_wide v_up v_low r_sines r_column (vp_updL r_gram (Int32.toNatClampNeg t39) t41) r_right r_p1) := hD
              refine lv_aload_n hx hb dX6_layGram_145 rfl (lv_at hl 3 rfl) ?_
              refine va_get (D := (dC, dI)) (ci := 6) (v := .ref n_right) (C := RX6) (T := TX6) (N := 28) hx hb hts hinX6 hown hG.1 hP 0 rfl rfl 24 (by decide) k1 (fun _ h9 => h9) rfl dX6_layGram_146 ?_
              refine lv_iload hx hb dX6_layGram_149 (lv_at hl 2 rfl) ?_
              refine lv_dup2_11 hx hb dX6_layGram_151 rfl rfl ?_
              obtain ⟨hi43, hm⟩ := chk_some hm
              refine va_lald hx hb hG.1 hP 4 1 rfl rfl hi43 dX6_layGram_152 ?_
              refine lv_iload hx hb dX6_layGram_153 (lv_at hl 0 rfl) ?_
              refine g_i2l hx hb dX6_layGram_155 ?_
              refine lv_lsub hx hb dX6_layGram_156 ?_
              refine lv_topl (fun t44 et44 => ?_)
              replace hm := (nmd_eq et44).trans hm
              obtain ⟨hi45, hm⟩ := chk_some hm
              refine va_last hx hb hG.1 hP hD hS 4 1 rfl rfl hi45 dX6_layGram_157 (fun H locs hP hD hS => ?_)
              replace hP : va_P (dC, dI) vwCl (wd_537c0b k n_t n_p1 n_text n_readPage n_page n_trial n_book n_kept n_isKept n_seenStation n_seenOther n_seenWide n_seenWas n_sines n_at n_column n_gram n_right n_work v_thrown v_textSize v_place v_stations v_readStations v_doings v_seen v_seed v_wide v_up v_low r_sines r_column (vp_updL r_gram (Int32.toNatClampNeg t39) t41) (vp_updL r_right (Int32.toNatClampNeg t31) t44) r_p1) H := hP
              replace hD : va_D A (wd_537c0b k n_t n_p1 n_text n_readPage n_page n_trial n_book n_kept n_isKept n_seenStation n_seenOther n_seenWide n_seenWas n_sines n_at n_column n_gram n_right n_work v_thrown v_textSize v_place v_stations v_readStations v_doings v_seen v_seed v_wide v_up v_low r_sines r_column (vp_updL r_gram (Int32.toNatClampNeg t39) t41) (vp_updL r_right (Int32.toNatClampNeg t31) t44) r_p1) := hD
              exact J_158 _ _ _ _ _ _ _ _ _ _ _ _ _ _ (lv_sub hl [3, 4, 5, 6, 7, 8, 2, 1, 0] rfl) hP hD hS hm
  have L_32 : ∀ (n32 : Nat) (v_wide : Int32) (r_column : Nat → Int32) (r_gram : Nat → Int64) (r_right : Nat → Int64) (x2 : Int32) (x3 : Int32) (x4 : Int32) (x5 : Int32) (H : Heap) (locs : List Loc) (ls : Array Slot), lv_has ls 9 [(0, .ref n_t), (1, .ref n_p1), (2, .int x2), (3, .int x3), (4, .int x4), (5, .int x5)] → va_P (dC, dI) vwCl (wd_537c0b k n_t n_p1 n_text n_readPage n_page n_trial n_book n_kept n_isKept n_seenStation n_seenOther n_seenWide n_seenWas n_sines n_at n_column n_gram n_right n_work v_thrown v_textSize v_place v_stations v_readStations v_doings v_seen v_seed v_wide v_up v_low r_sines r_column r_gram r_right r_p1) H → va_D A (wd_537c0b k n_t n_p1 n_text n_readPage n_page n_trial n_book n_kept n_isKept n_seenStation n_seenOther n_seenWide n_seenWas n_sines n_at n_column n_gram n_right n_work v_thrown v_textSize v_place v_stations v_readStations v_doings v_seen v_seed v_wide v_up v_low r_sines r_column r_gram r_right r_p1) → va_S A s.heap H locs → f_X6_layGram_L32 F r_sines r_p1 n32 v_wide r_column r_gram r_right x2 x3 x4 x5 = some (o_v_wide, o_r_column, o_r_gram, o_r_right) → W p l e rm_X6_layGram s m args below meth c H locs 0 0 Q (F0 m 32 ls []) := by
    intro n32
    induction n32 with
    | zero =>
      intro v_wide r_column r_gram r_right x2 x3 x4 x5 H locs ls hl hP hD hS hm
      exact non_some hm
    | succ n32 ih32 =>
      intro v_wide r_column r_gram r_right x2 x3 x4 x5 H locs ls hl hP hD hS hm
      replace hm : f_X6_layGram_B32 F r_sines r_p1 (f_X6_layGram_L32 F r_sines r_p1 n32) v_wide r_column r_gram r_right x2 x3 x4 x5 = some (o_v_wide, o_r_column, o_r_gram, o_r_right) := hm
      unfold f_X6_layGram_B32 at hm
      refine lv_iload hx hb dX6_layGram_32 (lv_at hl 5 rfl) ?_
      refine lv_iconst (v := (5 : Int32)) hx hb dX6_layGram_34 (by decide) ?_
      refine lv_icmp_ge (tgt := 52) hx hb dX6_layGram_35 (by decide) (fun c46 => ?_) (fun c46 => ?_)
      · replace hm := ifp c46 hm
        refine lv_iconst (v := (0 : Int32)) hx hb dX6_layGram_52 (by decide) ?_
        refine lv_istore (lv' := [(5, .int (0 : Int32)), (0, .ref n_t), (1, .ref n_p1), (2, .int x2), (3, .int x3), (4, .int x4)]) hx hb dX6_layGram_53 hl (by decide) rfl (fun ls hl => ?_)
        exact L_55 F _ _ _ _ _ _ _ _ _ _ _ (lv_sub hl [1, 2, 3, 4, 5, 0] rfl) hP hD hS hm
      · replace hm := ifn c46 hm
        refine lv_aload_n hx hb dX6_layGram_38 rfl (lv_at hl 0 rfl) ?_
        refine va_get (D := (dC, dI)) (ci := 6) (v := .ref n_right) (C := RX6) (T := TX6) (N := 28) hx hb hts hinX6 hown hG.1 hP 0 rfl rfl 24 (by decide) k1 (fun _ h9 => h9) rfl dX6_layGram_39 ?_
        refine lv_iload hx hb dX6_layGram_42 (lv_at hl 5 rfl) ?_
        refine lv_lconst (v := (0 : Int64)) hx hb dX6_layGram_44 (by decide) ?_
        obtain ⟨hi47, hm⟩ := chk_some hm
        refine va_last hx hb hG.1 hP hD hS 4 1 rfl rfl hi47 dX6_layGram_45 (fun H locs hP hD hS => ?_)
        replace hP : va_P (dC, dI) vwCl (wd_537c0b k n_t n_p1 n_text n_readPage n_page n_trial n_book n_kept n_isKept n_seenStation n_seenOther n_seenWide n_seenWas n_sines n_at n_column n_gram n_right n_work v_thrown v_textSize v_place v_stations v_readStations v_doings v_seen v_seed v_wide v_up v_low r_sines r_column r_gram (vp_updL r_right (Int32.toNatClampNeg x5) (0 : Int64)) r_p1) H := hP
        replace hD : va_D A (wd_537c0b k n_t n_p1 n_text n_readPage n_page n_trial n_book n_kept n_isKept n_seenStation n_seenOther n_seenWide n_seenWas n_sines n_at n_column n_gram n_right n_work v_thrown v_textSize v_place v_stations v_readStations v_doings v_seen v_seed v_wide v_up v_low r_sines r_column r_gram (vp_updL r_right (Int32.toNatClampNeg x5) (0 : Int64)) r_p1) := hD
        obtain ⟨t48, et48⟩ : ∃ y : Int32, y = x5 + (1 : Int32) := ⟨_, rfl⟩
        replace hm := (nmd_eq et48).trans hm
        refine lv_iinc (v := t48) (lv' := [(5, .int t48), (0, .ref n_t), (1, .ref n_p1), (2, .int x2), (3, .int x3), (4, .int x4)]) hx hb dX6_layGram_46 hl (k := 5) rfl (by rw [et48]; rfl) (by decide) rfl (fun ls hl => ?_)
        refine lv_goto (tgt := 32) hx hb dX6_layGram_49 (by decide) ?_
        exact ih32 _ _ _ _ _ _ _ _ _ _ _ (lv_sub hl [1, 2, 3, 4, 5, 0] rfl) hP hD hS hm
  have L_8 : ∀ (n8 : Nat) (v_wide : Int32) (r_column : Nat → Int32) (r_gram : Nat → Int64) (r_right : Nat → Int64) (x2 : Int32) (x3 : Int32) (x4 : Int32) (x5 : Int32) (H : Heap) (locs : List Loc) (ls : Array Slot), lv_has ls 9 [(0, .ref n_t), (1, .ref n_p1), (2, .int x2), (3, .int x3), (4, .int x4), (5, .int x5)] → va_P (dC, dI) vwCl (wd_537c0b k n_t n_p1 n_text n_readPage n_page n_trial n_book n_kept n_isKept n_seenStation n_seenOther n_seenWide n_seenWas n_sines n_at n_column n_gram n_right n_work v_thrown v_textSize v_place v_stations v_readStations v_doings v_seen v_seed v_wide v_up v_low r_sines r_column r_gram r_right r_p1) H → va_D A (wd_537c0b k n_t n_p1 n_text n_readPage n_page n_trial n_book n_kept n_isKept n_seenStation n_seenOther n_seenWide n_seenWas n_sines n_at n_column n_gram n_right n_work v_thrown v_textSize v_place v_stations v_readStations v_doings v_seen v_seed v_wide v_up v_low r_sines r_column r_gram r_right r_p1) → va_S A s.heap H locs → f_X6_layGram_L8 F r_sines r_p1 n8 v_wide r_column r_gram r_right x2 x3 x4 x5 = some (o_v_wide, o_r_column, o_r_gram, o_r_right) → W p l e rm_X6_layGram s m args below meth c H locs 0 0 Q (F0 m 8 ls []) := by
    intro n8
    induction n8 with
    | zero =>
      intro v_wide r_column r_gram r_right x2 x3 x4 x5 H locs ls hl hP hD hS hm
      exact non_some hm
    | succ n8 ih8 =>
      intro v_wide r_column r_gram r_right x2 x3 x4 x5 H locs ls hl hP hD hS hm
      replace hm : f_X6_layGram_B8 F r_sines r_p1 (f_X6_layGram_L8 F r_sines r_p1 n8) v_wide r_column r_gram r_right x2 x3 x4 x5 = some (o_v_wide, o_r_column, o_r_gram, o_r_right) := hm
      unfold f_X6_layGram_B8 at hm
      refine lv_iload hx hb dX6_layGram_8 (lv_at hl 5 rfl) ?_
      refine lv_bipush (v := (25 : Int32)) hx hb dX6_layGram_10 (by decide) ?_
      refine lv_icmp_ge (tgt := 29) hx hb dX6_layGram_12 (by decide) (fun c49 => ?_) (fun c49 => ?_)
      · replace hm := ifp c49 hm
        refine lv_iconst (v := (0 : Int32)) hx hb dX6_layGram_29 (by decide) ?_
        refine lv_istore (lv' := [(5, .int (0 : Int32)), (0, .ref n_t), (1, .ref n_p1), (2, .int x2), (3, .int x3), (4, .int x4)]) hx hb dX6_layGram_30 hl (by decide) rfl (fun ls hl => ?_)
        exact L_32 F _ _ _ _ _ _ _ _ _ _ _ (lv_sub hl [1, 2, 3, 4, 5, 0] rfl) hP hD hS hm
      · replace hm := ifn c49 hm
        refine lv_aload_n hx hb dX6_layGram_15 rfl (lv_at hl 0 rfl) ?_
        refine va_get (D := (dC, dI)) (ci := 6) (v := .ref n_gram) (C := RX6) (T := TX6) (N := 28) hx hb hts hinX6 hown hG.1 hP 0 rfl rfl 23 (by decide) k0 (fun _ h9 => h9) rfl dX6_layGram_16 ?_
        refine lv_iload hx hb dX6_layGram_19 (lv_at hl 5 rfl) ?_
        refine lv_lconst (v := (0 : Int64)) hx hb dX6_layGram_21 (by decide) ?_
        obtain ⟨hi50, hm⟩ := chk_some hm
        refine va_last hx hb hG.1 hP hD hS 3 1 rfl rfl hi50 dX6_layGram_22 (fun H locs hP hD hS => ?_)
        replace hP : va_P (dC, dI) vwCl (wd_537c0b k n_t n_p1 n_text n_readPage n_page n_trial n_book n_kept n_isKept n_seenStation n_seenOther n_seenWide n_seenWas n_sines n_at n_column n_gram n_right n_work v_thrown v_textSize v_place v_stations v_readStations v_doings v_seen v_seed v_wide v_up v_low r_sines r_column (vp_updL r_gram (Int32.toNatClampNeg x5) (0 : Int64)) r_right r_p1) H := hP
        replace hD : va_D A (wd_537c0b k n_t n_p1 n_text n_readPage n_page n_trial n_book n_kept n_isKept n_seenStation n_seenOther n_seenWide n_seenWas n_sines n_at n_column n_gram n_right n_work v_thrown v_textSize v_place v_stations v_readStations v_doings v_seen v_seed v_wide v_up v_low r_sines r_column (vp_updL r_gram (Int32.toNatClampNeg x5) (0 : Int64)) r_right r_p1) := hD
        obtain ⟨t51, et51⟩ : ∃ y : Int32, y = x5 + (1 : Int32) := ⟨_, rfl⟩
        replace hm := (nmd_eq et51).trans hm
        refine lv_iinc (v := t51) (lv' := [(5, .int t51), (0, .ref n_t), (1, .ref n_p1), (2, .int x2), (3, .int x3), (4, .int x4)]) hx hb dX6_layGram_23 hl (k := 5) rfl (by rw [et51]; rfl) (by decide) rfl (fun ls hl => ?_)
        refine lv_goto (tgt := 8) hx hb dX6_layGram_26 (by decide) ?_
        exact ih8 _ _ _ _ _ _ _ _ _ _ _ (lv_sub hl [1, 2, 3, 4, 5, 0] rfl) hP hD hS hm
  unfold f_X6_layGram at hm
  refine lv_aload_n hx hb dX6_layGram_0 rfl (lv_at hl 0 rfl) ?_
  refine lv_iload_n hx hb dX6_layGram_1 rfl (lv_at hl 3 rfl) ?_
  obtain ⟨w52, w53, e54, hm⟩ := bnd2_some hm
  refine g_callv (w2 := (wd_537c0b k n_t n_p1 n_text n_readPage n_page n_trial n_book n_kept n_isKept n_seenStation n_seenOther n_seenWide n_seenWas n_sines n_at n_column n_gram n_right n_work v_thrown v_textSize v_place v_stations v_readStations v_doings v_seen v_seed w52 v_up v_low r_sines w53 r_gram r_right r_p1)) (va_runV (As := [.int x3]) (rest := []) ⟨hx, hb, hml, hown, hts⟩ (m_X6_layColumns l dC dI k F H.size n_t n_text n_readPage n_page n_trial n_book n_kept n_isKept n_seenStation n_seenOther n_seenWide n_seenWas n_sines n_at n_column n_gram n_right n_work v_thrown v_textSize v_place v_stations v_readStations v_doings v_seen v_seed v_wide v_up v_low r_column x3 e54) (cwV 1 hts gX6_layGram_X6_layColumns rfl rfl rfl (by decide +kernel) ⟨Nat.le_of_ble_eq_true rfl, Nat.le_of_ble_eq_true rfl⟩) (g_preV hG hP hD hS hA [0, 2] rfl (by decide) (ci := 6) (q0 := 0) rfl rfl) rfl rfl hl.1 rfl (lv_room (Nat.le_of_ble_eq_true rfl)) dX6_layGram_2 ⟨Nat.le_of_ble_eq_true rfl, Nat.le_of_ble_eq_true rfl⟩) hP hD hS hA [0, 2] [1, 3, 4, 5] [4, 0, 5, 1, 2, 3] rfl rfl (by decide) (by decide) rfl (by decide) (fun H locs hP hD hS => ?_)
  refine lv_iconst (v := (0 : Int32)) hx hb dX6_layGram_5 (by decide) ?_
  refine lv_istore (lv' := [(5, .int (0 : Int32)), (0, .ref n_t), (1, .ref n_p1), (2, .int x2), (3, .int x3), (4, .int x4)]) hx hb dX6_layGram_6 hl (by decide) rfl (fun ls hl => ?_)
  exact L_8 F _ _ _ _ _ _ _ _ _ _ _ (lv_sub hl [1, 2, 3, 4, 5, 0] rfl) hP hD hS hm
set_option maxRecDepth 100000 in
theorem m_X6_layGram (l : Launch) (dC : Nat → ClassId) (dI : Nat → Nat → Nat) (k : Nat → ClassId) (F : Nat) (sz : Nat) (n_t n_p1 n_text n_readPage n_page n_trial n_book n_kept n_isKept n_seenStation n_seenOther n_seenWide n_seenWas n_sines n_at n_column n_gram n_right n_work : Nat) (v_thrown : Int32) (v_textSize : Int32) (v_place : Int32) (v_stations : Int32) (v_readStations : Int32) (v_doings : Int32) (v_seen : Int32) (v_seed : Int64) (v_wide : Int32) (v_up : Int64) (v_low : Int64) (r_sines : Nat → Int32) (r_column : Nat → Int32) (r_gram : Nat → Int64) (r_right : Nat → Int64) (r_p1 : Nat → Int32) (x2 : Int32) (x3 : Int32) (x4 : Int32) {o_v_wide : (Int32)} {o_r_column : (Nat → Int32)} {o_r_gram : (Nat → Int64)} {o_r_right : (Nat → Int64)} (hm : f_X6_layGram F x2 x3 x4 v_wide r_sines r_column r_gram r_right r_p1 = some (o_v_wide, o_r_column, o_r_gram, o_r_right)) : Met l yX6_layGram wsX6_layGram rm_X6_layGram (gPre dC dI k [.ref n_t, .ref n_p1, .int x2, .int x3, .int x4] sz (wd_537c0b k n_t n_p1 n_text n_readPage n_page n_trial n_book n_kept n_isKept n_seenStation n_seenOther n_seenWide n_seenWas n_sines n_at n_column n_gram n_right n_work v_thrown v_textSize v_place v_stations v_readStations v_doings v_seen v_seed v_wide v_up v_low r_sines r_column r_gram r_right r_p1)) (gQV dC dI (va_A (wd_537c0b k n_t n_p1 n_text n_readPage n_page n_trial n_book n_kept n_isKept n_seenStation n_seenOther n_seenWide n_seenWas n_sines n_at n_column n_gram n_right n_work v_thrown v_textSize v_place v_stations v_readStations v_doings v_seen v_seed v_wide v_up v_low r_sines r_column r_gram r_right r_p1) sz) (wd_537c0b k n_t n_p1 n_text n_readPage n_page n_trial n_book n_kept n_isKept n_seenStation n_seenOther n_seenWide n_seenWas n_sines n_at n_column n_gram n_right n_work v_thrown v_textSize v_place v_stations v_readStations v_doings v_seen v_seed o_v_wide v_up v_low r_sines o_r_column o_r_gram o_r_right r_p1)) 0 0 (va_A (wd_537c0b k n_t n_p1 n_text n_readPage n_page n_trial n_book n_kept n_isKept n_seenStation n_seenOther n_seenWide n_seenWas n_sines n_at n_column n_gram n_right n_work v_thrown v_textSize v_place v_stations v_readStations v_doings v_seen v_seed v_wide v_up v_low r_sines r_column r_gram r_right r_p1) sz) := by
  refine g_entry (cc := cX6_layGram) (maxL := 9) (ret := none) (lv := [(0, .ref n_t), (1, .ref n_p1), (2, .int x2), (3, .int x3), (4, .int x4)]) (by decide +kernel) rfl (Nat.le_of_ble_eq_true rfl) rfl (fun p e s m below meth c ls hx hb hr hml hts hown hlk hnm hsz hG hA hP hD hS hl => ?_)
  exact k_X6_layGram hx hb hml hts hown hG hA F n_t n_p1 n_text n_readPage n_page n_trial n_book n_kept n_isKept n_seenStation n_seenOther n_seenWide n_seenWas n_sines n_at n_column n_gram n_right n_work v_thrown v_textSize v_place v_stations v_readStations v_doings v_seen v_seed v_wide v_up v_low r_sines r_column r_gram r_right r_p1 x2 x3 x4 o_v_wide o_r_column o_r_gram o_r_right (fun pc H locs ls q_v_wide q_r_column q_r_gram q_r_right hd ho hP hD hS => by cases ho; exact g_vret hx hb hr hlk hP hD hS hd) s.heap [] ls hl hP hD hS hm
end
section
set_option maxHeartbeats 4000000 in
set_option maxRecDepth 100000 in
theorem k_X6_determinant {p : Program} {l : Launch} {e : Env} {s : State} {m : MethodId} {args : Array Value} {below : List Frame} {meth : Method} {c : Code} {A : Nat → Prop} {Q : State → Prop} {dC : Nat → ClassId} {dI : Nat → Nat → Nat} {k : Nat → ClassId} (hx : p.tables.exec = Jvm.exec) (hb : c.code = cX6_determinant) (hml : c.maxLocals = 11) (hts : ∀ w ∈ wsX6_determinant, w.before args s = true) (hown : s.vm.findClass RX6 = some m.cls) (hG : gK dC dI k A s) (hA : ∀ q : Nat, s.heap.size ≤ q → A q) (F : Nat) (n_t n_text n_readPage n_page n_trial n_book n_kept n_isKept n_seenStation n_seenOther n_seenWide n_seenWas n_sines n_at n_column n_gram n_right n_work : Nat) (v_thrown : Int32) (v_textSize : Int32) (v_place : Int32) (v_stations : Int32) (v_readStations : Int32) (v_doings : Int32) (v_seen : Int32) (v_seed : Int64) (v_wide : Int32) (v_up : Int64) (v_low : Int64) (r_gram : Nat → Int64) (r_right : Nat → Int64) (r_work : Nat → Int64) (x1 : Int32) (o_r : Int64) (o_r_work : (Nat → Int64)) (RET : ∀ (pc : Nat) (H : Heap) (locs : List Loc) (ls : Array Slot) (v : Int64) (q_r_work : Nat → Int64), decode cX6_determinant pc = .ok (.lreturn, 1) → some (v, q_r_work) = some (o_r, o_r_work) → va_P (dC, dI) vwCl (wd_bb21f1 k n_t n_text n_readPage n_page n_trial n_book n_kept n_isKept n_seenStation n_seenOther n_seenWide n_seenWas n_sines n_at n_column n_gram n_right n_work v_thrown v_textSize v_place v_stations v_readStations v_doings v_seen v_seed v_wide v_up v_low r_gram r_right q_r_work) H → va_D A (wd_bb21f1 k n_t n_text n_readPage n_page n_trial n_book n_kept n_isKept n_seenStation n_seenOther n_seenWide n_seenWas n_sines n_at n_column n_gram n_right n_work v_thrown v_textSize v_place v_stations v_readStations v_doings v_seen v_seed v_wide v_up v_low r_gram r_right q_r_work) → va_S A s.heap H locs → W p l e rm_X6_determinant s m args below meth c H locs 0 0 Q (F0 m pc ls [.long v])) (H : Heap) (locs : List Loc) (ls : Array Slot) (hl : lv_has ls 11 [(0, .ref n_t), (1, .int x1)]) (hP : va_P (dC, dI) vwCl (wd_bb21f1 k n_t n_text n_readPage n_page n_trial n_book n_kept n_isKept n_seenStation n_seenOther n_seenWide n_seenWas n_sines n_at n_column n_gram n_right n_work v_thrown v_textSize v_place v_stations v_readStations v_doings v_seen v_seed v_wide v_up v_low r_gram r_right r_work) H) (hD : va_D A (wd_bb21f1 k n_t n_text n_readPage n_page n_trial n_book n_kept n_isKept n_seenStation n_seenOther n_seenWide n_seenWas n_sines n_at n_column n_gram n_right n_work v_thrown v_textSize v_place v_stations v_readStations v_doings v_seen v_seed v_wide v_up v_low r_gram r_right r_work)) (hS : va_S A s.heap H locs) (hm : f_X6_determinant F x1 v_wide r_gram r_right r_work = some (o_r, o_r_work)) : W p l e rm_X6_determinant s m args below meth c H locs 0 0 Q (F0 m 0 ls []) := by
  have hinX6 : ∀ w ∈ u_ws RX6 TX6 28, w ∈ wsX6_determinant := by decide +kernel
  have k0 := hts (.fieldLink RX6 64 "CaveLegsModel" "work" "[J") (by decide +kernel)
  have k1 := hts (.fieldLink RX6 175 "CaveLegsModel" "wide" "I") (by decide +kernel)
  have k2 := hts (.fieldLink RX6 57 "CaveLegsModel" "gram" "[J") (by decide +kernel)
  have k3 := hts (.fieldLink RX6 61 "CaveLegsModel" "right" "[J") (by decide +kernel)
  have L_74 : ∀ (n74 : Nat) (r_work : Nat → Int64) (x2 : Int64) (x4 : Int64) (x6 : Int32) (H : Heap) (locs : List Loc) (ls : Array Slot), lv_has ls 11 [(0, .ref n_t), (2, .long x2), (4, .long x4), (6, .int x6)] → va_P (dC, dI) vwCl (wd_bb21f1 k n_t n_text n_readPage n_page n_trial n_book n_kept n_isKept n_seenStation n_seenOther n_seenWide n_seenWas n_sines n_at n_column n_gram n_right n_work v_thrown v_textSize v_place v_stations v_readStations v_doings v_seen v_seed v_wide v_up v_low r_gram r_right r_work) H → va_D A (wd_bb21f1 k n_t n_text n_readPage n_page n_trial n_book n_kept n_isKept n_seenStation n_seenOther n_seenWide n_seenWas n_sines n_at n_column n_gram n_right n_work v_thrown v_textSize v_place v_stations v_readStations v_doings v_seen v_seed v_wide v_up v_low r_gram r_right r_work) → va_S A s.heap H locs → f_X6_determinant_L74 F v_wide r_gram r_right n74 r_work x2 x4 x6 = some (o_r, o_r_work) → W p l e rm_X6_determinant s m args below meth c H locs 0 0 Q (F0 m 74 ls []) := by
    intro n74
    induction n74 with
    | zero =>
      intro r_work x2 x4 x6 H locs ls hl hP hD hS hm
      exact non_some hm
    | succ n74 ih74 =>
      have L_218 : ∀ (n218 : Nat) (r_work : Nat → Int64) (x2 : Int64) (x4 : Int64) (x6 : Int32) (x8 : Int32) (H : Heap) (locs : List Loc) (ls : Array Slot), lv_has ls 11 [(0, .ref n_t), (2, .long x2), (4, .long x4), (6, .int x6), (8, .int x8)] → va_P (dC, dI) vwCl (wd_bb21f1 k n_t n_text n_readPage n_page n_trial n_book n_kept n_isKept n_seenStation n_seenOther n_seenWide n_seenWas n_sines n_at n_column n_gram n_right n_work v_thrown v_textSize v_place v_stations v_readStations v_doings v_seen v_seed v_wide v_up v_low r_gram r_right r_work) H → va_D A (wd_bb21f1 k n_t n_text n_readPage n_page n_trial n_book n_kept n_isKept n_seenStation n_seenOther n_seenWide n_seenWas n_sines n_at n_column n_gram n_right n_work v_thrown v_textSize v_place v_stations v_readStations v_doings v_seen v_seed v_wide v_up v_low r_gram r_right r_work) → va_S A s.heap H locs → f_X6_determinant_L218 F v_wide r_gram r_right (f_X6_determinant_L74 F v_wide r_gram r_right n74) n218 r_work x2 x4 x6 x8 = some (o_r, o_r_work) → W p l e rm_X6_determinant s m args below meth c H locs 0 0 Q (F0 m 218 ls []) := by
        intro n218
        induction n218 with
        | zero =>
          intro r_work x2 x4 x6 x8 H locs ls hl hP hD hS hm
          exact non_some hm
        | succ n218 ih218 =>
          have L_235 : ∀ (n235 : Nat) (r_work : Nat → Int64) (x2 : Int64) (x4 : Int64) (x6 : Int32) (x8 : Int32) (x9 : Int32) (H : Heap) (locs : List Loc) (ls : Array Slot), lv_has ls 11 [(0, .ref n_t), (2, .long x2), (4, .long x4), (6, .int x6), (8, .int x8), (9, .int x9)] → va_P (dC, dI) vwCl (wd_bb21f1 k n_t n_text n_readPage n_page n_trial n_book n_kept n_isKept n_seenStation n_seenOther n_seenWide n_seenWas n_sines n_at n_column n_gram n_right n_work v_thrown v_textSize v_place v_stations v_readStations v_doings v_seen v_seed v_wide v_up v_low r_gram r_right r_work) H → va_D A (wd_bb21f1 k n_t n_text n_readPage n_page n_trial n_book n_kept n_isKept n_seenStation n_seenOther n_seenWide n_seenWas n_sines n_at n_column n_gram n_right n_work v_thrown v_textSize v_place v_stations v_readStations v_doings v_seen v_seed v_wide v_up v_low r_gram r_right r_work) → va_S A s.heap H locs → f_X6_determinant_L235 F v_wide r_gram r_right (f_X6_determinant_L74 F v_wide r_gram r_right n74) (f_X6_determinant_L218 F v_wide r_gram r_right (f_X6_determinant_L74 F v_wide r_gram r_right n74) n218) n235 r_work x2 x4 x6 x8 x9 = some (o_r, o_r_work) → W p l e rm_X6_determinant s m args below meth c H locs 0 0 Q (F0 m 235 ls []) := by
            intro n235
            induction n235 with
            | zero =>
              intro r_work x2 x4 x6 x8 x9 H locs ls hl hP hD hS hm
              exact non_some hm
            | succ n235 ih235 =>
              intro r_work x2 x4 x6 x8 x9 H locs ls hl hP hD hS hm
              replace hm : f_X6_determinant_B235 F v_wide r_gram r_right (f_X6_determinant_L74 F v_wide r_gram r_right n74) (f_X6_determinant_L218 F v_wide r_gram r_right (f_X6_determinant_L74 F v_wide r_gram r_right n74) n218) (f_X6_determinant_L235 F v_wide r_gram r_right (f_X6_determinant_L74 F v_wide r_gram r_right n74) (f_X6_determinant_L218 F v_wide r_gram r_right (f_X6_determinant_L74 F v_wide r_gram r_right n74) n218) n235) r_work x2 x4 x6 x8 x9 = some (o_r, o_r_work) := hm
              unfold f_X6_determinant_B235 at hm
              refine lv_iload hx hb dX6_determinant_235 (lv_at hl 5 rfl) ?_
              refine lv_iload hx hb dX6_determinant_237 (lv_at hl 3 rfl) ?_
              refine lv_icmp_lt (tgt := 313) hx hb dX6_determinant_239 (by decide) (fun c1 => ?_) (fun c1 => ?_)
              · replace hm := ifp c1 hm
                obtain ⟨t2, et2⟩ : ∃ y : Int32, y = x8 + (1 : Int32) := ⟨_, rfl⟩
                replace hm := (nmd_eq et2).trans hm
                refine lv_iinc (v := t2) (lv' := [(8, .int t2), (0, .ref n_t), (2, .long x2), (4, .long x4), (6, .int x6), (9, .int x9)]) hx hb dX6_determinant_313 hl (k := 4) rfl (by rw [et2]; rfl) (by decide) rfl (fun ls hl => ?_)
                refine lv_goto (tgt := 218) hx hb dX6_determinant_316 (by decide) ?_
                exact ih218 _ _ _ _ _ _ _ _ (lv_sub hl [1, 2, 3, 4, 0] rfl) hP hD hS hm
              · replace hm := ifn c1 hm
                refine lv_aload_n hx hb dX6_determinant_242 rfl (lv_at hl 0 rfl) ?_
                refine va_get (D := (dC, dI)) (ci := 6) (v := .ref n_work) (C := RX6) (T := TX6) (N := 28) hx hb hts hinX6 hown hG.1 hP 0 rfl rfl 25 (by decide) k0 (fun _ h9 => h9) rfl dX6_determinant_243 ?_
                refine lv_iconst (v := (5 : Int32)) hx hb dX6_determinant_246 (by decide) ?_
                refine lv_iload hx hb dX6_determinant_247 (lv_at hl 4 rfl) ?_
                refine lv_imul hx hb dX6_determinant_249 ?_
                refine lv_iload hx hb dX6_determinant_250 (lv_at hl 5 rfl) ?_
                refine lv_iadd hx hb dX6_determinant_252 ?_
                refine lv_aload_n hx hb dX6_determinant_253 rfl (lv_at hl 0 rfl) ?_
                refine va_get (D := (dC, dI)) (ci := 6) (v := .ref n_work) (C := RX6) (T := TX6) (N := 28) hx hb hts hinX6 hown hG.1 hP 0 rfl rfl 25 (by decide) k0 (fun _ h9 => h9) rfl dX6_determinant_254 ?_
                refine lv_iconst (v := (5 : Int32)) hx hb dX6_determinant_257 (by decide) ?_
                refine lv_iload hx hb dX6_determinant_258 (lv_at hl 4 rfl) ?_
                refine lv_imul hx hb dX6_determinant_260 ?_
                refine lv_iload hx hb dX6_determinant_261 (lv_at hl 5 rfl) ?_
                refine lv_iadd hx hb dX6_determinant_263 ?_
                obtain ⟨hi3, hm⟩ := chk_some hm
                refine va_lald hx hb hG.1 hP 3 1 rfl rfl hi3 dX6_determinant_264 ?_
                refine lv_aload_n hx hb dX6_determinant_265 rfl (lv_at hl 0 rfl) ?_
                refine va_get (D := (dC, dI)) (ci := 6) (v := .ref n_work) (C := RX6) (T := TX6) (N := 28) hx hb hts hinX6 hown hG.1 hP 0 rfl rfl 25 (by decide) k0 (fun _ h9 => h9) rfl dX6_determinant_266 ?_
                refine lv_iconst (v := (5 : Int32)) hx hb dX6_determinant_269 (by decide) ?_
                refine lv_iload hx hb dX6_determinant_270 (lv_at hl 3 rfl) ?_
                refine lv_imul hx hb dX6_determinant_272 ?_
                refine lv_iload hx hb dX6_determinant_273 (lv_at hl 3 rfl) ?_
                refine lv_iadd hx hb dX6_determinant_275 ?_
                obtain ⟨hi4, hm⟩ := chk_some hm
                refine va_lald hx hb hG.1 hP 3 1 rfl rfl hi4 dX6_determinant_276 ?_
                refine lv_lmul hx hb dX6_determinant_277 ?_
                refine lv_aload_n hx hb dX6_determinant_278 rfl (lv_at hl 0 rfl) ?_
                refine va_get (D := (dC, dI)) (ci := 6) (v := .ref n_work) (C := RX6) (T := TX6) (N := 28) hx hb hts hinX6 hown hG.1 hP 0 rfl rfl 25 (by decide) k0 (fun _ h9 => h9) rfl dX6_determinant_279 ?_
                refine lv_iconst (v := (5 : Int32)) hx hb dX6_determinant_282 (by decide) ?_
                refine lv_iload hx hb dX6_determinant_283 (lv_at hl 4 rfl) ?_
                refine lv_imul hx hb dX6_determinant_285 ?_
                refine lv_iload hx hb dX6_determinant_286 (lv_at hl 3 rfl) ?_
                refine lv_iadd hx hb dX6_determinant_288 ?_
                obtain ⟨hi5, hm⟩ := chk_some hm
                refine va_lald hx hb hG.1 hP 3 1 rfl rfl hi5 dX6_determinant_289 ?_
                refine lv_aload_n hx hb dX6_determinant_290 rfl (lv_at hl 0 rfl) ?_
                refine va_get (D := (dC, dI)) (ci := 6) (v := .ref n_work) (C := RX6) (T := TX6) (N := 28) hx hb hts hinX6 hown hG.1 hP 0 rfl rfl 25 (by decide) k0 (fun _ h9 => h9) rfl dX6_determinant_291 ?_
                refine lv_iconst (v := (5 : Int32)) hx hb dX6_determinant_294 (by decide) ?_
                refine lv_iload hx hb dX6_determinant_295 (lv_at hl 3 rfl) ?_
                refine lv_imul hx hb dX6_determinant_297 ?_
                refine lv_iload hx hb dX6_determinant_298 (lv_at hl 5 rfl) ?_
                refine lv_iadd hx hb dX6_determinant_300 ?_
                obtain ⟨hi6, hm⟩ := chk_some hm
                refine va_lald hx hb hG.1 hP 3 1 rfl rfl hi6 dX6_determinant_301 ?_
                refine lv_lmul hx hb dX6_determinant_302 ?_
                refine lv_lsub hx hb dX6_determinant_303 ?_
                refine lv_lload_n hx hb dX6_determinant_304 rfl (lv_at hl 1 rfl) ?_
                obtain ⟨hz7, hm⟩ := chkDL_some hm
                refine lv_ldiv hx hb dX6_determinant_305 hz7 ?_
                refine lv_topl (fun t8 et8 => ?_)
                replace hm := (nmd_eq et8).trans hm
                obtain ⟨hi9, hm⟩ := chk_some hm
                refine va_last hx hb hG.1 hP hD hS 3 1 rfl rfl hi9 dX6_determinant_306 (fun H locs hP hD hS => ?_)
                replace hP : va_P (dC, dI) vwCl (wd_bb21f1 k n_t n_text n_readPage n_page n_trial n_book n_kept n_isKept n_seenStation n_seenOther n_seenWide n_seenWas n_sines n_at n_column n_gram n_right n_work v_thrown v_textSize v_place v_stations v_readStations v_doings v_seen v_seed v_wide v_up v_low r_gram r_right (vp_updL r_work (Int32.toNatClampNeg (((5 : Int32) * x8) + x9)) t8)) H := hP
                replace hD : va_D A (wd_bb21f1 k n_t n_text n_readPage n_page n_trial n_book n_kept n_isKept n_seenStation n_seenOther n_seenWide n_seenWas n_sines n_at n_column n_gram n_right n_work v_thrown v_textSize v_place v_stations v_readStations v_doings v_seen v_seed v_wide v_up v_low r_gram r_right (vp_updL r_work (Int32.toNatClampNeg (((5 : Int32) * x8) + x9)) t8)) := hD
                obtain ⟨t10, et10⟩ : ∃ y : Int32, y = x9 + (-1 : Int32) := ⟨_, rfl⟩
                replace hm := (nmd_eq et10).trans hm
                refine lv_iinc (v := t10) (lv' := [(9, .int t10), (0, .ref n_t), (2, .long x2), (4, .long x4), (6, .int x6), (8, .int x8)]) hx hb dX6_determinant_307 hl (k := 5) rfl (by rw [et10]; rfl) (by decide) rfl (fun ls hl => ?_)
                refine lv_goto (tgt := 235) hx hb dX6_determinant_310 (by decide) ?_
                exact ih235 _ _ _ _ _ _ _ _ _ (lv_sub hl [1, 2, 3, 4, 5, 0] rfl) hP hD hS hm
          intro r_work x2 x4 x6 x8 H locs ls hl hP hD hS hm
          replace hm : f_X6_determinant_B218 F v_wide r_gram r_right (f_X6_determinant_L74 F v_wide r_gram r_right n74) (f_X6_determinant_L218 F v_wide r_gram r_right (f_X6_determinant_L74 F v_wide r_gram r_right n74) n218) r_work x2 x4 x6 x8 = some (o_r, o_r_work) := hm
          unfold f_X6_determinant_B218 at hm
          refine lv_iload hx hb dX6_determinant_218 (lv_at hl 4 rfl) ?_
          refine lv_aload_n hx hb dX6_determinant_220 rfl (lv_at hl 0 rfl) ?_
          refine va_get (D := (dC, dI)) (ci := 6) (v := .int v_wide) (C := RX6) (T := TX6) (N := 28) hx hb hts hinX6 hown hG.1 hP 0 rfl rfl 21 (by decide) k1 (fun _ h9 => h9) rfl dX6_determinant_221 ?_
          refine lv_icmp_ge (tgt := 319) hx hb dX6_determinant_224 (by decide) (fun c11 => ?_) (fun c11 => ?_)
          · replace hm := ifp c11 hm
            refine lv_aload_n hx hb dX6_determinant_319 rfl (lv_at hl 0 rfl) ?_
            refine va_get (D := (dC, dI)) (ci := 6) (v := .ref n_work) (C := RX6) (T := TX6) (N := 28) hx hb hts hinX6 hown hG.1 hP 0 rfl rfl 25 (by decide) k0 (fun _ h9 => h9) rfl dX6_determinant_320 ?_
            refine lv_iconst (v := (5 : Int32)) hx hb dX6_determinant_323 (by decide) ?_
            refine lv_iload hx hb dX6_determinant_324 (lv_at hl 3 rfl) ?_
            refine lv_imul hx hb dX6_determinant_326 ?_
            refine lv_iload hx hb dX6_determinant_327 (lv_at hl 3 rfl) ?_
            refine lv_iadd hx hb dX6_determinant_329 ?_
            obtain ⟨hi12, hm⟩ := chk_some hm
            refine va_lald hx hb hG.1 hP 3 1 rfl rfl hi12 dX6_determinant_330 ?_
            refine lv_topl (fun t13 et13 => ?_)
            replace hm := (nmd_eq et13).trans hm
            refine lv_lstore_n (lv' := [(2, .long t13), (0, .ref n_t), (4, .long x4), (6, .int x6), (8, .int x8)]) hx hb dX6_determinant_331 rfl hl (by decide) rfl (fun ls hl => ?_)
            obtain ⟨t14, et14⟩ : ∃ y : Int32, y = x6 + (1 : Int32) := ⟨_, rfl⟩
            replace hm := (nmd_eq et14).trans hm
            refine lv_iinc (v := t14) (lv' := [(6, .int t14), (2, .long t13), (0, .ref n_t), (4, .long x4), (8, .int x8)]) hx hb dX6_determinant_332 hl (k := 3) rfl (by rw [et14]; rfl) (by decide) rfl (fun ls hl => ?_)
            refine lv_goto (tgt := 74) hx hb dX6_determinant_335 (by decide) ?_
            exact ih74 _ _ _ _ _ _ _ (lv_sub hl [2, 1, 3, 0] rfl) hP hD hS hm
          · replace hm := ifn c11 hm
            refine lv_aload_n hx hb dX6_determinant_227 rfl (lv_at hl 0 rfl) ?_
            refine va_get (D := (dC, dI)) (ci := 6) (v := .int v_wide) (C := RX6) (T := TX6) (N := 28) hx hb hts hinX6 hown hG.1 hP 0 rfl rfl 21 (by decide) k1 (fun _ h9 => h9) rfl dX6_determinant_228 ?_
            refine lv_iconst (v := (1 : Int32)) hx hb dX6_determinant_231 (by decide) ?_
            refine lv_isub hx hb dX6_determinant_232 ?_
            refine lv_topi (fun t15 et15 => ?_)
            replace hm := (nmd_eq et15).trans hm
            refine lv_istore (lv' := [(9, .int t15), (0, .ref n_t), (2, .long x2), (4, .long x4), (6, .int x6), (8, .int x8)]) hx hb dX6_determinant_233 hl (by decide) rfl (fun ls hl => ?_)
            exact L_235 F _ _ _ _ _ _ _ _ _ (lv_sub hl [1, 2, 3, 4, 5, 0] rfl) hP hD hS hm
      have J_212 : ∀ (r_work : Nat → Int64) (x2 : Int64) (x4 : Int64) (x6 : Int32) (H : Heap) (locs : List Loc) (ls : Array Slot), lv_has ls 11 [(0, .ref n_t), (2, .long x2), (4, .long x4), (6, .int x6)] → va_P (dC, dI) vwCl (wd_bb21f1 k n_t n_text n_readPage n_page n_trial n_book n_kept n_isKept n_seenStation n_seenOther n_seenWide n_seenWas n_sines n_at n_column n_gram n_right n_work v_thrown v_textSize v_place v_stations v_readStations v_doings v_seen v_seed v_wide v_up v_low r_gram r_right r_work) H → va_D A (wd_bb21f1 k n_t n_text n_readPage n_page n_trial n_book n_kept n_isKept n_seenStation n_seenOther n_seenWide n_seenWas n_sines n_at n_column n_gram n_right n_work v_thrown v_textSize v_place v_stations v_readStations v_doings v_seen v_seed v_wide v_up v_low r_gram r_right r_work) → va_S A s.heap H locs → f_X6_determinant_J212 F v_wide r_gram r_right (f_X6_determinant_L74 F v_wide r_gram r_right n74) r_work x2 x4 x6 = some (o_r, o_r_work) → W p l e rm_X6_determinant s m args below meth c H locs 0 0 Q (F0 m 212 ls []) := by
        intro r_work x2 x4 x6 H locs ls hl hP hD hS hm
        unfold f_X6_determinant_J212 at hm
        refine lv_iload hx hb dX6_determinant_212 (lv_at hl 3 rfl) ?_
        refine lv_iconst (v := (1 : Int32)) hx hb dX6_determinant_214 (by decide) ?_
        refine lv_iadd hx hb dX6_determinant_215 ?_
        refine lv_topi (fun t16 et16 => ?_)
        replace hm := (nmd_eq et16).trans hm
        refine lv_istore (lv' := [(8, .int t16), (0, .ref n_t), (2, .long x2), (4, .long x4), (6, .int x6)]) hx hb dX6_determinant_216 hl (by decide) rfl (fun ls hl => ?_)
        exact L_218 F _ _ _ _ _ _ _ _ (lv_sub hl [1, 2, 3, 4, 0] rfl) hP hD hS hm
      have L_145 : ∀ (n145 : Nat) (r_work : Nat → Int64) (x2 : Int64) (x4 : Int64) (x6 : Int32) (x7 : Int32) (x8 : Int32) (H : Heap) (locs : List Loc) (ls : Array Slot), lv_has ls 11 [(0, .ref n_t), (2, .long x2), (4, .long x4), (6, .int x6), (7, .int x7), (8, .int x8)] → va_P (dC, dI) vwCl (wd_bb21f1 k n_t n_text n_readPage n_page n_trial n_book n_kept n_isKept n_seenStation n_seenOther n_seenWide n_seenWas n_sines n_at n_column n_gram n_right n_work v_thrown v_textSize v_place v_stations v_readStations v_doings v_seen v_seed v_wide v_up v_low r_gram r_right r_work) H → va_D A (wd_bb21f1 k n_t n_text n_readPage n_page n_trial n_book n_kept n_isKept n_seenStation n_seenOther n_seenWide n_seenWas n_sines n_at n_column n_gram n_right n_work v_thrown v_textSize v_place v_stations v_readStations v_doings v_seen v_seed v_wide v_up v_low r_gram r_right r_work) → va_S A s.heap H locs → f_X6_determinant_L145 F v_wide r_gram r_right (f_X6_determinant_L74 F v_wide r_gram r_right n74) n145 r_work x2 x4 x6 x7 x8 = some (o_r, o_r_work) → W p l e rm_X6_determinant s m args below meth c H locs 0 0 Q (F0 m 145 ls []) := by
        intro n145
        induction n145 with
        | zero =>
          intro r_work x2 x4 x6 x7 x8 H locs ls hl hP hD hS hm
          exact non_some hm
        | succ n145 ih145 =>
          intro r_work x2 x4 x6 x7 x8 H locs ls hl hP hD hS hm
          replace hm : f_X6_determinant_B145 F v_wide r_gram r_right (f_X6_determinant_L74 F v_wide r_gram r_right n74) (f_X6_determinant_L145 F v_wide r_gram r_right (f_X6_determinant_L74 F v_wide r_gram r_right n74) n145) r_work x2 x4 x6 x7 x8 = some (o_r, o_r_work) := hm
          unfold f_X6_determinant_B145 at hm
          refine lv_iload hx hb dX6_determinant_145 (lv_at hl 5 rfl) ?_
          refine lv_aload_n hx hb dX6_determinant_147 rfl (lv_at hl 0 rfl) ?_
          refine va_get (D := (dC, dI)) (ci := 6) (v := .int v_wide) (C := RX6) (T := TX6) (N := 28) hx hb hts hinX6 hown hG.1 hP 0 rfl rfl 21 (by decide) k1 (fun _ h9 => h9) rfl dX6_determinant_148 ?_
          refine lv_icmp_ge (tgt := 212) hx hb dX6_determinant_151 (by decide) (fun c17 => ?_) (fun c17 => ?_)
          · replace hm := ifp c17 hm
            exact J_212 _ _ _ _ _ _ _ (lv_sub hl [0, 1, 2, 3] rfl) hP hD hS hm
          · replace hm := ifn c17 hm
            refine lv_aload_n hx hb dX6_determinant_154 rfl (lv_at hl 0 rfl) ?_
            refine va_get (D := (dC, dI)) (ci := 6) (v := .ref n_work) (C := RX6) (T := TX6) (N := 28) hx hb hts hinX6 hown hG.1 hP 0 rfl rfl 25 (by decide) k0 (fun _ h9 => h9) rfl dX6_determinant_155 ?_
            refine lv_iconst (v := (5 : Int32)) hx hb dX6_determinant_158 (by decide) ?_
            refine lv_iload hx hb dX6_determinant_159 (lv_at hl 4 rfl) ?_
            refine lv_imul hx hb dX6_determinant_161 ?_
            refine lv_iload hx hb dX6_determinant_162 (lv_at hl 5 rfl) ?_
            refine lv_iadd hx hb dX6_determinant_164 ?_
            obtain ⟨hi18, hm⟩ := chk_some hm
            refine va_lald hx hb hG.1 hP 3 1 rfl rfl hi18 dX6_determinant_165 ?_
            refine lv_topl (fun t19 et19 => ?_)
            replace hm := (nmd_eq et19).trans hm
            refine lv_lstore (lv' := [(9, .long t19), (0, .ref n_t), (2, .long x2), (4, .long x4), (6, .int x6), (7, .int x7), (8, .int x8)]) hx hb dX6_determinant_166 hl (by decide) rfl (fun ls hl => ?_)
            refine lv_aload_n hx hb dX6_determinant_168 rfl (lv_at hl 1 rfl) ?_
            refine va_get (D := (dC, dI)) (ci := 6) (v := .ref n_work) (C := RX6) (T := TX6) (N := 28) hx hb hts hinX6 hown hG.1 hP 0 rfl rfl 25 (by decide) k0 (fun _ h9 => h9) rfl dX6_determinant_169 ?_
            refine lv_iconst (v := (5 : Int32)) hx hb dX6_determinant_172 (by decide) ?_
            refine lv_iload hx hb dX6_determinant_173 (lv_at hl 5 rfl) ?_
            refine lv_imul hx hb dX6_determinant_175 ?_
            refine lv_iload hx hb dX6_determinant_176 (lv_at hl 6 rfl) ?_
            refine lv_iadd hx hb dX6_determinant_178 ?_
            refine lv_aload_n hx hb dX6_determinant_179 rfl (lv_at hl 1 rfl) ?_
            refine va_get (D := (dC, dI)) (ci := 6) (v := .ref n_work) (C := RX6) (T := TX6) (N := 28) hx hb hts hinX6 hown hG.1 hP 0 rfl rfl 25 (by decide) k0 (fun _ h9 => h9) rfl dX6_determinant_180 ?_
            refine lv_iconst (v := (5 : Int32)) hx hb dX6_determinant_183 (by decide) ?_
            refine lv_iload hx hb dX6_determinant_184 (lv_at hl 4 rfl) ?_
            refine lv_imul hx hb dX6_determinant_186 ?_
            refine lv_iload hx hb dX6_determinant_187 (lv_at hl 6 rfl) ?_
            refine lv_iadd hx hb dX6_determinant_189 ?_
            obtain ⟨hi20, hm⟩ := chk_some hm
            refine va_lald hx hb hG.1 hP 3 1 rfl rfl hi20 dX6_determinant_190 ?_
            refine lv_topl (fun t21 et21 => ?_)
            replace hm := (nmd_eq et21).trans hm
            obtain ⟨hi22, hm⟩ := chk_some hm
            refine va_last hx hb hG.1 hP hD hS 3 1 rfl rfl hi22 dX6_determinant_191 (fun H locs hP hD hS => ?_)
            replace hP : va_P (dC, dI) vwCl (wd_bb21f1 k n_t n_text n_readPage n_page n_trial n_book n_kept n_isKept n_seenStation n_seenOther n_seenWide n_seenWas n_sines n_at n_column n_gram n_right n_work v_thrown v_textSize v_place v_stations v_readStations v_doings v_seen v_seed v_wide v_up v_low r_gram r_right (vp_updL r_work (Int32.toNatClampNeg (((5 : Int32) * x7) + x8)) t21)) H := hP
            replace hD : va_D A (wd_bb21f1 k n_t n_text n_readPage n_page n_trial n_book n_kept n_isKept n_seenStation n_seenOther n_seenWide n_seenWas n_sines n_at n_column n_gram n_right n_work v_thrown v_textSize v_place v_stations v_readStations v_doings v_seen v_seed v_wide v_up v_low r_gram r_right (vp_updL r_work (Int32.toNatClampNeg (((5 : Int32) * x7) + x8)) t21)) := hD
            refine lv_aload_n hx hb dX6_determinant_192 rfl (lv_at hl 1 rfl) ?_
            refine va_get (D := (dC, dI)) (ci := 6) (v := .ref n_work) (C := RX6) (T := TX6) (N := 28) hx hb hts hinX6 hown hG.1 hP 0 rfl rfl 25 (by decide) k0 (fun _ h9 => h9) rfl dX6_determinant_193 ?_
            refine lv_iconst (v := (5 : Int32)) hx hb dX6_determinant_196 (by decide) ?_
            refine lv_iload hx hb dX6_determinant_197 (lv_at hl 4 rfl) ?_
            refine lv_imul hx hb dX6_determinant_199 ?_
            refine lv_iload hx hb dX6_determinant_200 (lv_at hl 6 rfl) ?_
            refine lv_iadd hx hb dX6_determinant_202 ?_
            refine lv_lload hx hb dX6_determinant_203 (lv_at hl 0 rfl) ?_
            obtain ⟨hi23, hm⟩ := chk_some hm
            refine va_last hx hb hG.1 hP hD hS 3 1 rfl rfl hi23 dX6_determinant_205 (fun H locs hP hD hS => ?_)
            replace hP : va_P (dC, dI) vwCl (wd_bb21f1 k n_t n_text n_readPage n_page n_trial n_book n_kept n_isKept n_seenStation n_seenOther n_seenWide n_seenWas n_sines n_at n_column n_gram n_right n_work v_thrown v_textSize v_place v_stations v_readStations v_doings v_seen v_seed v_wide v_up v_low r_gram r_right (vp_updL (vp_updL r_work (Int32.toNatClampNeg (((5 : Int32) * x7) + x8)) t21) (Int32.toNatClampNeg (((5 : Int32) * x6) + x8)) t19)) H := hP
            replace hD : va_D A (wd_bb21f1 k n_t n_text n_readPage n_page n_trial n_book n_kept n_isKept n_seenStation n_seenOther n_seenWide n_seenWas n_sines n_at n_column n_gram n_right n_work v_thrown v_textSize v_place v_stations v_readStations v_doings v_seen v_seed v_wide v_up v_low r_gram r_right (vp_updL (vp_updL r_work (Int32.toNatClampNeg (((5 : Int32) * x7) + x8)) t21) (Int32.toNatClampNeg (((5 : Int32) * x6) + x8)) t19)) := hD
            obtain ⟨t24, et24⟩ : ∃ y : Int32, y = x8 + (1 : Int32) := ⟨_, rfl⟩
            replace hm := (nmd_eq et24).trans hm
            refine lv_iinc (v := t24) (lv' := [(8, .int t24), (9, .long t19), (0, .ref n_t), (2, .long x2), (4, .long x4), (6, .int x6), (7, .int x7)]) hx hb dX6_determinant_206 hl (k := 6) rfl (by rw [et24]; rfl) (by decide) rfl (fun ls hl => ?_)
            refine lv_goto (tgt := 145) hx hb dX6_determinant_209 (by decide) ?_
            exact ih145 _ _ _ _ _ _ _ _ _ (lv_sub hl [2, 3, 4, 5, 6, 0] rfl) hP hD hS hm
      have J_119 : ∀ (r_work : Nat → Int64) (x2 : Int64) (x4 : Int64) (x6 : Int32) (x7 : Int32) (H : Heap) (locs : List Loc) (ls : Array Slot), lv_has ls 11 [(0, .ref n_t), (2, .long x2), (4, .long x4), (6, .int x6), (7, .int x7)] → va_P (dC, dI) vwCl (wd_bb21f1 k n_t n_text n_readPage n_page n_trial n_book n_kept n_isKept n_seenStation n_seenOther n_seenWide n_seenWas n_sines n_at n_column n_gram n_right n_work v_thrown v_textSize v_place v_stations v_readStations v_doings v_seen v_seed v_wide v_up v_low r_gram r_right r_work) H → va_D A (wd_bb21f1 k n_t n_text n_readPage n_page n_trial n_book n_kept n_isKept n_seenStation n_seenOther n_seenWide n_seenWas n_sines n_at n_column n_gram n_right n_work v_thrown v_textSize v_place v_stations v_readStations v_doings v_seen v_seed v_wide v_up v_low r_gram r_right r_work) → va_S A s.heap H locs → f_X6_determinant_J119 F v_wide r_gram r_right (f_X6_determinant_L74 F v_wide r_gram r_right n74) r_work x2 x4 x6 x7 = some (o_r, o_r_work) → W p l e rm_X6_determinant s m args below meth c H locs 0 0 Q (F0 m 119 ls []) := by
        intro r_work x2 x4 x6 x7 H locs ls hl hP hD hS hm
        unfold f_X6_determinant_J119 at hm
        refine lv_iload hx hb dX6_determinant_119 (lv_at hl 4 rfl) ?_
        refine lv_aload_n hx hb dX6_determinant_121 rfl (lv_at hl 0 rfl) ?_
        refine va_get (D := (dC, dI)) (ci := 6) (v := .int v_wide) (C := RX6) (T := TX6) (N := 28) hx hb hts hinX6 hown hG.1 hP 0 rfl rfl 21 (by decide) k1 (fun _ h9 => h9) rfl dX6_determinant_122 ?_
        refine lv_icmp_ne (tgt := 130) hx hb dX6_determinant_125 (by decide) (fun c25 => ?_) (fun c25 => ?_)
        · replace hm := ifn c25 hm
          refine lv_iload hx hb dX6_determinant_130 (lv_at hl 4 rfl) ?_
          refine lv_iload hx hb dX6_determinant_132 (lv_at hl 3 rfl) ?_
          refine lv_icmp_eq (tgt := 212) hx hb dX6_determinant_134 (by decide) (fun c26 => ?_) (fun c26 => ?_)
          · replace hm := ifp c26 hm
            exact J_212 _ _ _ _ _ _ _ (lv_sub hl [0, 1, 2, 3] rfl) hP hD hS hm
          · replace hm := ifn c26 hm
            refine lv_lload hx hb dX6_determinant_137 (lv_at hl 2 rfl) ?_
            refine lv_lneg hx hb dX6_determinant_139 ?_
            refine lv_topl (fun t27 et27 => ?_)
            replace hm := (nmd_eq et27).trans hm
            refine lv_lstore (lv' := [(4, .long t27), (0, .ref n_t), (2, .long x2), (6, .int x6), (7, .int x7)]) hx hb dX6_determinant_140 hl (by decide) rfl (fun ls hl => ?_)
            refine lv_iconst (v := (0 : Int32)) hx hb dX6_determinant_142 (by decide) ?_
            refine lv_istore (lv' := [(8, .int (0 : Int32)), (4, .long t27), (0, .ref n_t), (2, .long x2), (6, .int x6), (7, .int x7)]) hx hb dX6_determinant_143 hl (by decide) rfl (fun ls hl => ?_)
            exact L_145 F _ _ _ _ _ _ _ _ _ (lv_sub hl [2, 3, 1, 4, 5, 0] rfl) hP hD hS hm
        · replace hm := ifp c25 hm
          refine lv_lconst (v := (0 : Int64)) hx hb dX6_determinant_128 (by decide) ?_
          exact RET _ _ _ _ _ _ dX6_determinant_129 hm hP hD hS
      have L_87 : ∀ (n87 : Nat) (r_work : Nat → Int64) (x2 : Int64) (x4 : Int64) (x6 : Int32) (x7 : Int32) (H : Heap) (locs : List Loc) (ls : Array Slot), lv_has ls 11 [(0, .ref n_t), (2, .long x2), (4, .long x4), (6, .int x6), (7, .int x7)] → va_P (dC, dI) vwCl (wd_bb21f1 k n_t n_text n_readPage n_page n_trial n_book n_kept n_isKept n_seenStation n_seenOther n_seenWide n_seenWas n_sines n_at n_column n_gram n_right n_work v_thrown v_textSize v_place v_stations v_readStations v_doings v_seen v_seed v_wide v_up v_low r_gram r_right r_work) H → va_D A (wd_bb21f1 k n_t n_text n_readPage n_page n_trial n_book n_kept n_isKept n_seenStation n_seenOther n_seenWide n_seenWas n_sines n_at n_column n_gram n_right n_work v_thrown v_textSize v_place v_stations v_readStations v_doings v_seen v_seed v_wide v_up v_low r_gram r_right r_work) → va_S A s.heap H locs → f_X6_determinant_L87 F v_wide r_gram r_right (f_X6_determinant_L74 F v_wide r_gram r_right n74) n87 r_work x2 x4 x6 x7 = some (o_r, o_r_work) → W p l e rm_X6_determinant s m args below meth c H locs 0 0 Q (F0 m 87 ls []) := by
        intro n87
        induction n87 with
        | zero =>
          intro r_work x2 x4 x6 x7 H locs ls hl hP hD hS hm
          exact non_some hm
        | succ n87 ih87 =>
          intro r_work x2 x4 x6 x7 H locs ls hl hP hD hS hm
          replace hm : f_X6_determinant_B87 F v_wide r_gram r_right (f_X6_determinant_L74 F v_wide r_gram r_right n74) (f_X6_determinant_L87 F v_wide r_gram r_right (f_X6_determinant_L74 F v_wide r_gram r_right n74) n87) r_work x2 x4 x6 x7 = some (o_r, o_r_work) := hm
          unfold f_X6_determinant_B87 at hm
          refine lv_iload hx hb dX6_determinant_87 (lv_at hl 4 rfl) ?_
          refine lv_aload_n hx hb dX6_determinant_89 rfl (lv_at hl 0 rfl) ?_
          refine va_get (D := (dC, dI)) (ci := 6) (v := .int v_wide) (C := RX6) (T := TX6) (N := 28) hx hb hts hinX6 hown hG.1 hP 0 rfl rfl 21 (by decide) k1 (fun _ h9 => h9) rfl dX6_determinant_90 ?_
          refine lv_icmp_ge (tgt := 119) hx hb dX6_determinant_93 (by decide) (fun c28 => ?_) (fun c28 => ?_)
          · replace hm := ifp c28 hm
            exact J_119 _ _ _ _ _ _ _ _ (lv_sub hl [0, 1, 2, 3, 4] rfl) hP hD hS hm
          · replace hm := ifn c28 hm
            refine lv_aload_n hx hb dX6_determinant_96 rfl (lv_at hl 0 rfl) ?_
            refine va_get (D := (dC, dI)) (ci := 6) (v := .ref n_work) (C := RX6) (T := TX6) (N := 28) hx hb hts hinX6 hown hG.1 hP 0 rfl rfl 25 (by decide) k0 (fun _ h9 => h9) rfl dX6_determinant_97 ?_
            refine lv_iconst (v := (5 : Int32)) hx hb dX6_determinant_100 (by decide) ?_
            refine lv_iload hx hb dX6_determinant_101 (lv_at hl 4 rfl) ?_
            refine lv_imul hx hb dX6_determinant_103 ?_
            refine lv_iload hx hb dX6_determinant_104 (lv_at hl 3 rfl) ?_
            refine lv_iadd hx hb dX6_determinant_106 ?_
            obtain ⟨hi29, hm⟩ := chk_some hm
            refine va_lald hx hb hG.1 hP 3 1 rfl rfl hi29 dX6_determinant_107 ?_
            refine lv_lconst (v := (0 : Int64)) hx hb dX6_determinant_108 (by decide) ?_
            refine g_lcmp_ne (tgt := 119) hx hb dX6_determinant_109 rfl dX6_determinant_110 (by decide) (fun c30 => ?_) (fun c30 => ?_)
            · replace hm := ifn c30 hm
              exact J_119 _ _ _ _ _ _ _ _ (lv_sub hl [0, 1, 2, 3, 4] rfl) hP hD hS hm
            · replace hm := ifp c30 hm
              obtain ⟨t31, et31⟩ : ∃ y : Int32, y = x7 + (1 : Int32) := ⟨_, rfl⟩
              replace hm := (nmd_eq et31).trans hm
              refine lv_iinc (v := t31) (lv' := [(7, .int t31), (0, .ref n_t), (2, .long x2), (4, .long x4), (6, .int x6)]) hx hb dX6_determinant_113 hl (k := 4) rfl (by rw [et31]; rfl) (by decide) rfl (fun ls hl => ?_)
              refine lv_goto (tgt := 87) hx hb dX6_determinant_116 (by decide) ?_
              exact ih87 _ _ _ _ _ _ _ _ (lv_sub hl [1, 2, 3, 4, 0] rfl) hP hD hS hm
      intro r_work x2 x4 x6 H locs ls hl hP hD hS hm
      replace hm : f_X6_determinant_B74 F v_wide r_gram r_right (f_X6_determinant_L74 F v_wide r_gram r_right n74) r_work x2 x4 x6 = some (o_r, o_r_work) := hm
      unfold f_X6_determinant_B74 at hm
      refine lv_iload hx hb dX6_determinant_74 (lv_at hl 3 rfl) ?_
      refine lv_aload_n hx hb dX6_determinant_76 rfl (lv_at hl 0 rfl) ?_
      refine va_get (D := (dC, dI)) (ci := 6) (v := .int v_wide) (C := RX6) (T := TX6) (N := 28) hx hb hts hinX6 hown hG.1 hP 0 rfl rfl 21 (by decide) k1 (fun _ h9 => h9) rfl dX6_determinant_77 ?_
      refine lv_icmp_ge (tgt := 338) hx hb dX6_determinant_80 (by decide) (fun c32 => ?_) (fun c32 => ?_)
      · replace hm := ifp c32 hm
        refine lv_lload hx hb dX6_determinant_338 (lv_at hl 2 rfl) ?_
        refine lv_lload_n hx hb dX6_determinant_340 rfl (lv_at hl 1 rfl) ?_
        refine lv_lmul hx hb dX6_determinant_341 ?_
        exact RET _ _ _ _ _ _ dX6_determinant_342 hm hP hD hS
      · replace hm := ifn c32 hm
        refine lv_iload hx hb dX6_determinant_83 (lv_at hl 3 rfl) ?_
        refine lv_istore (lv' := [(7, .int x6), (0, .ref n_t), (2, .long x2), (4, .long x4), (6, .int x6)]) hx hb dX6_determinant_85 hl (by decide) rfl (fun ls hl => ?_)
        exact L_87 F _ _ _ _ _ _ _ _ (lv_sub hl [1, 2, 3, 4, 0] rfl) hP hD hS hm
  have L_2 : ∀ (n2 : Nat) (r_work : Nat → Int64) (x1 : Int32) (x2 : Int32) (H : Heap) (locs : List Loc) (ls : Array Slot), lv_has ls 11 [(0, .ref n_t), (1, .int x1), (2, .int x2)] → va_P (dC, dI) vwCl (wd_bb21f1 k n_t n_text n_readPage n_page n_trial n_book n_kept n_isKept n_seenStation n_seenOther n_seenWide n_seenWas n_sines n_at n_column n_gram n_right n_work v_thrown v_textSize v_place v_stations v_readStations v_doings v_seen v_seed v_wide v_up v_low r_gram r_right r_work) H → va_D A (wd_bb21f1 k n_t n_text n_readPage n_page n_trial n_book n_kept n_isKept n_seenStation n_seenOther n_seenWide n_seenWas n_sines n_at n_column n_gram n_right n_work v_thrown v_textSize v_place v_stations v_readStations v_doings v_seen v_seed v_wide v_up v_low r_gram r_right r_work) → va_S A s.heap H locs → f_X6_determinant_L2 F v_wide r_gram r_right n2 r_work x1 x2 = some (o_r, o_r_work) → W p l e rm_X6_determinant s m args below meth c H locs 0 0 Q (F0 m 2 ls []) := by
    intro n2
    induction n2 with
    | zero =>
      intro r_work x1 x2 H locs ls hl hP hD hS hm
      exact non_some hm
    | succ n2 ih2 =>
      have L_12 : ∀ (n12 : Nat) (r_work : Nat → Int64) (x1 : Int32) (x2 : Int32) (x3 : Int32) (H : Heap) (locs : List Loc) (ls : Array Slot), lv_has ls 11 [(0, .ref n_t), (1, .int x1), (2, .int x2), (3, .int x3)] → va_P (dC, dI) vwCl (wd_bb21f1 k n_t n_text n_readPage n_page n_trial n_book n_kept n_isKept n_seenStation n_seenOther n_seenWide n_seenWas n_sines n_at n_column n_gram n_right n_work v_thrown v_textSize v_place v_stations v_readStations v_doings v_seen v_seed v_wide v_up v_low r_gram r_right r_work) H → va_D A (wd_bb21f1 k n_t n_text n_readPage n_page n_trial n_book n_kept n_isKept n_seenStation n_seenOther n_seenWide n_seenWas n_sines n_at n_column n_gram n_right n_work v_thrown v_textSize v_place v_stations v_readStations v_doings v_seen v_seed v_wide v_up v_low r_gram r_right r_work) → va_S A s.heap H locs → f_X6_determinant_L12 F v_wide r_gram r_right (f_X6_determinant_L2 F v_wide r_gram r_right n2) n12 r_work x1 x2 x3 = some (o_r, o_r_work) → W p l e rm_X6_determinant s m args below meth c H locs 0 0 Q (F0 m 12 ls []) := by
        intro n12
        induction n12 with
        | zero =>
          intro r_work x1 x2 x3 H locs ls hl hP hD hS hm
          exact non_some hm
        | succ n12 ih12 =>
          have J_53 : ∀ (r_work : Nat → Int64) (x1 : Int32) (x2 : Int32) (x3 : Int32) (s1 : Int32) (s2 : Int64) (H : Heap) (locs : List Loc) (ls : Array Slot), lv_has ls 11 [(0, .ref n_t), (1, .int x1), (2, .int x2), (3, .int x3)] → va_P (dC, dI) vwCl (wd_bb21f1 k n_t n_text n_readPage n_page n_trial n_book n_kept n_isKept n_seenStation n_seenOther n_seenWide n_seenWas n_sines n_at n_column n_gram n_right n_work v_thrown v_textSize v_place v_stations v_readStations v_doings v_seen v_seed v_wide v_up v_low r_gram r_right r_work) H → va_D A (wd_bb21f1 k n_t n_text n_readPage n_page n_trial n_book n_kept n_isKept n_seenStation n_seenOther n_seenWide n_seenWas n_sines n_at n_column n_gram n_right n_work v_thrown v_textSize v_place v_stations v_readStations v_doings v_seen v_seed v_wide v_up v_low r_gram r_right r_work) → va_S A s.heap H locs → f_X6_determinant_J53 F v_wide r_gram r_right (f_X6_determinant_L2 F v_wide r_gram r_right n2) (f_X6_determinant_L12 F v_wide r_gram r_right (f_X6_determinant_L2 F v_wide r_gram r_right n2) n12) r_work x1 x2 x3 s1 s2 = some (o_r, o_r_work) → W p l e rm_X6_determinant s m args below meth c H locs 0 0 Q (F0 m 53 ls [.long s2, .int s1, .ref n_work]) := by
            intro r_work x1 x2 x3 s1 s2 H locs ls hl hP hD hS hm
            unfold f_X6_determinant_J53 at hm
            obtain ⟨hi33, hm⟩ := chk_some hm
            refine va_last hx hb hG.1 hP hD hS 3 1 rfl rfl hi33 dX6_determinant_53 (fun H locs hP hD hS => ?_)
            replace hP : va_P (dC, dI) vwCl (wd_bb21f1 k n_t n_text n_readPage n_page n_trial n_book n_kept n_isKept n_seenStation n_seenOther n_seenWide n_seenWas n_sines n_at n_column n_gram n_right n_work v_thrown v_textSize v_place v_stations v_readStations v_doings v_seen v_seed v_wide v_up v_low r_gram r_right (vp_updL r_work (Int32.toNatClampNeg s1) s2)) H := hP
            replace hD : va_D A (wd_bb21f1 k n_t n_text n_readPage n_page n_trial n_book n_kept n_isKept n_seenStation n_seenOther n_seenWide n_seenWas n_sines n_at n_column n_gram n_right n_work v_thrown v_textSize v_place v_stations v_readStations v_doings v_seen v_seed v_wide v_up v_low r_gram r_right (vp_updL r_work (Int32.toNatClampNeg s1) s2)) := hD
            obtain ⟨t34, et34⟩ : ∃ y : Int32, y = x3 + (1 : Int32) := ⟨_, rfl⟩
            replace hm := (nmd_eq et34).trans hm
            refine lv_iinc (v := t34) (lv' := [(3, .int t34), (0, .ref n_t), (1, .int x1), (2, .int x2)]) hx hb dX6_determinant_54 hl (k := 3) rfl (by rw [et34]; rfl) (by decide) rfl (fun ls hl => ?_)
            refine lv_goto (tgt := 12) hx hb dX6_determinant_57 (by decide) ?_
            exact ih12 _ _ _ _ _ _ _ (lv_sub hl [1, 2, 3, 0] rfl) hP hD hS hm
          intro r_work x1 x2 x3 H locs ls hl hP hD hS hm
          replace hm : f_X6_determinant_B12 F v_wide r_gram r_right (f_X6_determinant_L2 F v_wide r_gram r_right n2) (f_X6_determinant_L12 F v_wide r_gram r_right (f_X6_determinant_L2 F v_wide r_gram r_right n2) n12) r_work x1 x2 x3 = some (o_r, o_r_work) := hm
          unfold f_X6_determinant_B12 at hm
          refine lv_iload_n hx hb dX6_determinant_12 rfl (lv_at hl 3 rfl) ?_
          refine lv_aload_n hx hb dX6_determinant_13 rfl (lv_at hl 0 rfl) ?_
          refine va_get (D := (dC, dI)) (ci := 6) (v := .int v_wide) (C := RX6) (T := TX6) (N := 28) hx hb hts hinX6 hown hG.1 hP 0 rfl rfl 21 (by decide) k1 (fun _ h9 => h9) rfl dX6_determinant_14 ?_
          refine lv_icmp_ge (tgt := 60) hx hb dX6_determinant_17 (by decide) (fun c35 => ?_) (fun c35 => ?_)
          · replace hm := ifp c35 hm
            obtain ⟨t36, et36⟩ : ∃ y : Int32, y = x2 + (1 : Int32) := ⟨_, rfl⟩
            replace hm := (nmd_eq et36).trans hm
            refine lv_iinc (v := t36) (lv' := [(2, .int t36), (0, .ref n_t), (1, .int x1), (3, .int x3)]) hx hb dX6_determinant_60 hl (k := 2) rfl (by rw [et36]; rfl) (by decide) rfl (fun ls hl => ?_)
            refine lv_goto (tgt := 2) hx hb dX6_determinant_63 (by decide) ?_
            exact ih2 _ _ _ _ _ _ (lv_sub hl [1, 2, 0] rfl) hP hD hS hm
          · replace hm := ifn c35 hm
            refine lv_aload_n hx hb dX6_determinant_20 rfl (lv_at hl 0 rfl) ?_
            refine va_get (D := (dC, dI)) (ci := 6) (v := .ref n_work) (C := RX6) (T := TX6) (N := 28) hx hb hts hinX6 hown hG.1 hP 0 rfl rfl 25 (by decide) k0 (fun _ h9 => h9) rfl dX6_determinant_21 ?_
            refine lv_iconst (v := (5 : Int32)) hx hb dX6_determinant_24 (by decide) ?_
            refine lv_iload_n hx hb dX6_determinant_25 rfl (lv_at hl 2 rfl) ?_
            refine lv_imul hx hb dX6_determinant_26 ?_
            refine lv_iload_n hx hb dX6_determinant_27 rfl (lv_at hl 3 rfl) ?_
            refine lv_iadd hx hb dX6_determinant_28 ?_
            refine lv_iload_n hx hb dX6_determinant_29 rfl (lv_at hl 3 rfl) ?_
            refine lv_iload_n hx hb dX6_determinant_30 rfl (lv_at hl 1 rfl) ?_
            refine lv_icmp_ne (tgt := 43) hx hb dX6_determinant_31 (by decide) (fun c37 => ?_) (fun c37 => ?_)
            · replace hm := ifn c37 hm
              refine lv_aload_n hx hb dX6_determinant_43 rfl (lv_at hl 0 rfl) ?_
              refine va_get (D := (dC, dI)) (ci := 6) (v := .ref n_gram) (C := RX6) (T := TX6) (N := 28) hx hb hts hinX6 hown hG.1 hP 0 rfl rfl 23 (by decide) k2 (fun _ h9 => h9) rfl dX6_determinant_44 ?_
              refine lv_iconst (v := (5 : Int32)) hx hb dX6_determinant_47 (by decide) ?_
              refine lv_iload_n hx hb dX6_determinant_48 rfl (lv_at hl 2 rfl) ?_
              refine lv_imul hx hb dX6_determinant_49 ?_
              refine lv_iload_n hx hb dX6_determinant_50 rfl (lv_at hl 3 rfl) ?_
              refine lv_iadd hx hb dX6_determinant_51 ?_
              obtain ⟨hi38, hm⟩ := chk_some hm
              refine va_lald hx hb hG.1 hP 1 1 rfl rfl hi38 dX6_determinant_52 ?_
              exact J_53 _ _ _ _ _ _ _ _ _ (lv_sub hl [0, 1, 2, 3] rfl) hP hD hS hm
            · replace hm := ifp c37 hm
              refine lv_aload_n hx hb dX6_determinant_34 rfl (lv_at hl 0 rfl) ?_
              refine va_get (D := (dC, dI)) (ci := 6) (v := .ref n_right) (C := RX6) (T := TX6) (N := 28) hx hb hts hinX6 hown hG.1 hP 0 rfl rfl 24 (by decide) k3 (fun _ h9 => h9) rfl dX6_determinant_35 ?_
              refine lv_iload_n hx hb dX6_determinant_38 rfl (lv_at hl 2 rfl) ?_
              obtain ⟨hi39, hm⟩ := chk_some hm
              refine va_lald hx hb hG.1 hP 2 1 rfl rfl hi39 dX6_determinant_39 ?_
              refine lv_goto (tgt := 53) hx hb dX6_determinant_40 (by decide) ?_
              exact J_53 _ _ _ _ _ _ _ _ _ (lv_sub hl [0, 1, 2, 3] rfl) hP hD hS hm
      intro r_work x1 x2 H locs ls hl hP hD hS hm
      replace hm : f_X6_determinant_B2 F v_wide r_gram r_right (f_X6_determinant_L2 F v_wide r_gram r_right n2) r_work x1 x2 = some (o_r, o_r_work) := hm
      unfold f_X6_determinant_B2 at hm
      refine lv_iload_n hx hb dX6_determinant_2 rfl (lv_at hl 2 rfl) ?_
      refine lv_aload_n hx hb dX6_determinant_3 rfl (lv_at hl 0 rfl) ?_
      refine va_get (D := (dC, dI)) (ci := 6) (v := .int v_wide) (C := RX6) (T := TX6) (N := 28) hx hb hts hinX6 hown hG.1 hP 0 rfl rfl 21 (by decide) k1 (fun _ h9 => h9) rfl dX6_determinant_4 ?_
      refine lv_icmp_ge (tgt := 66) hx hb dX6_determinant_7 (by decide) (fun c40 => ?_) (fun c40 => ?_)
      · replace hm := ifp c40 hm
        refine lv_lconst (v := (1 : Int64)) hx hb dX6_determinant_66 (by decide) ?_
        refine lv_lstore_n (lv' := [(2, .long (1 : Int64)), (0, .ref n_t), (1, .int x1)]) hx hb dX6_determinant_67 rfl hl (by decide) rfl (fun ls hl => ?_)
        refine lv_lconst (v := (1 : Int64)) hx hb dX6_determinant_68 (by decide) ?_
        refine lv_lstore (lv' := [(4, .long (1 : Int64)), (2, .long (1 : Int64)), (0, .ref n_t), (1, .int x1)]) hx hb dX6_determinant_69 hl (by decide) rfl (fun ls hl => ?_)
        refine lv_iconst (v := (0 : Int32)) hx hb dX6_determinant_71 (by decide) ?_
        refine lv_istore (lv' := [(6, .int (0 : Int32)), (4, .long (1 : Int64)), (2, .long (1 : Int64)), (0, .ref n_t), (1, .int x1)]) hx hb dX6_determinant_72 hl (by decide) rfl (fun ls hl => ?_)
        exact L_74 F _ _ _ _ _ _ _ (lv_sub hl [3, 2, 1, 0] rfl) hP hD hS hm
      · replace hm := ifn c40 hm
        refine lv_iconst (v := (0 : Int32)) hx hb dX6_determinant_10 (by decide) ?_
        refine lv_istore_n (lv' := [(3, .int (0 : Int32)), (0, .ref n_t), (1, .int x1), (2, .int x2)]) hx hb dX6_determinant_11 rfl hl (by decide) rfl (fun ls hl => ?_)
        exact L_12 F _ _ _ _ _ _ _ (lv_sub hl [1, 2, 3, 0] rfl) hP hD hS hm
  unfold f_X6_determinant at hm
  refine lv_iconst (v := (0 : Int32)) hx hb dX6_determinant_0 (by decide) ?_
  refine lv_istore_n (lv' := [(2, .int (0 : Int32)), (0, .ref n_t), (1, .int x1)]) hx hb dX6_determinant_1 rfl hl (by decide) rfl (fun ls hl => ?_)
  exact L_2 F _ _ _ _ _ _ (lv_sub hl [1, 2, 0] rfl) hP hD hS hm
set_option maxRecDepth 100000 in
theorem m_X6_determinant (l : Launch) (dC : Nat → ClassId) (dI : Nat → Nat → Nat) (k : Nat → ClassId) (F : Nat) (sz : Nat) (n_t n_text n_readPage n_page n_trial n_book n_kept n_isKept n_seenStation n_seenOther n_seenWide n_seenWas n_sines n_at n_column n_gram n_right n_work : Nat) (v_thrown : Int32) (v_textSize : Int32) (v_place : Int32) (v_stations : Int32) (v_readStations : Int32) (v_doings : Int32) (v_seen : Int32) (v_seed : Int64) (v_wide : Int32) (v_up : Int64) (v_low : Int64) (r_gram : Nat → Int64) (r_right : Nat → Int64) (r_work : Nat → Int64) (x1 : Int32) {o_r : Int64} {o_r_work : (Nat → Int64)} (hm : f_X6_determinant F x1 v_wide r_gram r_right r_work = some (o_r, o_r_work)) : Met l yX6_determinant wsX6_determinant rm_X6_determinant (gPre dC dI k [.ref n_t, .int x1] sz (wd_bb21f1 k n_t n_text n_readPage n_page n_trial n_book n_kept n_isKept n_seenStation n_seenOther n_seenWide n_seenWas n_sines n_at n_column n_gram n_right n_work v_thrown v_textSize v_place v_stations v_readStations v_doings v_seen v_seed v_wide v_up v_low r_gram r_right r_work)) (gQL dC dI (va_A (wd_bb21f1 k n_t n_text n_readPage n_page n_trial n_book n_kept n_isKept n_seenStation n_seenOther n_seenWide n_seenWas n_sines n_at n_column n_gram n_right n_work v_thrown v_textSize v_place v_stations v_readStations v_doings v_seen v_seed v_wide v_up v_low r_gram r_right r_work) sz) o_r (wd_bb21f1 k n_t n_text n_readPage n_page n_trial n_book n_kept n_isKept n_seenStation n_seenOther n_seenWide n_seenWas n_sines n_at n_column n_gram n_right n_work v_thrown v_textSize v_place v_stations v_readStations v_doings v_seen v_seed v_wide v_up v_low r_gram r_right o_r_work)) 0 0 (va_A (wd_bb21f1 k n_t n_text n_readPage n_page n_trial n_book n_kept n_isKept n_seenStation n_seenOther n_seenWide n_seenWas n_sines n_at n_column n_gram n_right n_work v_thrown v_textSize v_place v_stations v_readStations v_doings v_seen v_seed v_wide v_up v_low r_gram r_right r_work) sz) := by
  refine g_entry (cc := cX6_determinant) (maxL := 11) (ret := (some .long)) (lv := [(0, .ref n_t), (1, .int x1)]) (by decide +kernel) rfl (Nat.le_of_ble_eq_true rfl) rfl (fun p e s m below meth c ls hx hb hr hml hts hown hlk hnm hsz hG hA hP hD hS hl => ?_)
  exact k_X6_determinant hx hb hml hts hown hG hA F n_t n_text n_readPage n_page n_trial n_book n_kept n_isKept n_seenStation n_seenOther n_seenWide n_seenWas n_sines n_at n_column n_gram n_right n_work v_thrown v_textSize v_place v_stations v_readStations v_doings v_seen v_seed v_wide v_up v_low r_gram r_right r_work x1 o_r o_r_work (fun pc H locs ls v q_r_work hd ho hP hD hS => by cases ho; exact g_lret hx hb hr hlk hP hD hS hd) s.heap [] ls hl hP hD hS hm
end
section
set_option maxHeartbeats 4000000 in
set_option maxRecDepth 100000 in
theorem k_X6_divisor {p : Program} {l : Launch} {e : Env} {s : State} {m : MethodId} {args : Array Value} {below : List Frame} {meth : Method} {c : Code} {A : Nat → Prop} {Q : State → Prop} {dC : Nat → ClassId} {dI : Nat → Nat → Nat} {k : Nat → ClassId} (hx : p.tables.exec = Jvm.exec) (hb : c.code = cX6_divisor) (hml : c.maxLocals = 10) (hts : ∀ w ∈ wsX6_divisor, w.before args s = true) (hown : s.vm.findClass RX6 = some m.cls) (hG : gK dC dI k A s) (hA : ∀ q : Nat, s.heap.size ≤ q → A q) (F : Nat)  (x0 : Int64) (x2 : Int64) (o_r : Int64) (RET : ∀ (pc : Nat) (H : Heap) (locs : List Loc) (ls : Array Slot) (v : Int64), decode cX6_divisor pc = .ok (.lreturn, 1) → some v = some o_r → va_P (dC, dI) vwCl [] H → va_D A [] → va_S A s.heap H locs → W p l e rm_X6_divisor s m args below meth c H locs 0 0 Q (F0 m pc ls [.long v])) (H : Heap) (locs : List Loc) (ls : Array Slot) (hl : lv_has ls 10 [(0, .long x0), (2, .long x2)]) (hP : va_P (dC, dI) vwCl [] H) (hD : va_D A []) (hS : va_S A s.heap H locs) (hm : f_X6_divisor F x0 x2 = some o_r) : W p l e rm_X6_divisor s m args below meth c H locs 0 0 Q (F0 m 0 ls []) := by
  have L_17 : ∀ (n17 : Nat) (x4 : Int64) (x6 : Int64) (H : Heap) (locs : List Loc) (ls : Array Slot), lv_has ls 10 [(4, .long x4), (6, .long x6)] → va_P (dC, dI) vwCl [] H → va_D A [] → va_S A s.heap H locs → f_X6_divisor_L17 F n17 x4 x6 = some o_r → W p l e rm_X6_divisor s m args below meth c H locs 0 0 Q (F0 m 17 ls []) := by
    intro n17
    induction n17 with
    | zero =>
      intro x4 x6 H locs ls hl hP hD hS hm
      exact non_some hm
    | succ n17 ih17 =>
      intro x4 x6 H locs ls hl hP hD hS hm
      replace hm : f_X6_divisor_B17 F (f_X6_divisor_L17 F n17) x4 x6 = some o_r := hm
      unfold f_X6_divisor_B17 at hm
      refine lv_lload hx hb dX6_divisor_17 (lv_at hl 1 rfl) ?_
      refine lv_lconst (v := (0 : Int64)) hx hb dX6_divisor_19 (by decide) ?_
      refine g_lcmp_eq (tgt := 42) hx hb dX6_divisor_20 rfl dX6_divisor_21 (by decide) (fun c1 => ?_) (fun c1 => ?_)
      · replace hm := ifp c1 hm
        refine lv_lload hx hb dX6_divisor_42 (lv_at hl 0 rfl) ?_
        exact RET _ _ _ _ _ dX6_divisor_44 hm hP hD hS
      · replace hm := ifn c1 hm
        refine lv_lload hx hb dX6_divisor_24 (lv_at hl 0 rfl) ?_
        refine lv_lload hx hb dX6_divisor_26 (lv_at hl 1 rfl) ?_
        obtain ⟨hz2, hm⟩ := chkDL_some hm
        refine g_lrem hx hb dX6_divisor_28 hz2 ?_
        refine lv_topl (fun t3 et3 => ?_)
        replace hm := (nmd_eq et3).trans hm
        refine lv_lstore (lv' := [(8, .long t3), (4, .long x4), (6, .long x6)]) hx hb dX6_divisor_29 hl (by decide) rfl (fun ls hl => ?_)
        refine lv_lload hx hb dX6_divisor_31 (lv_at hl 2 rfl) ?_
        refine lv_lstore (lv' := [(4, .long x6), (8, .long t3), (6, .long x6)]) hx hb dX6_divisor_33 hl (by decide) rfl (fun ls hl => ?_)
        refine lv_lload hx hb dX6_divisor_35 (lv_at hl 1 rfl) ?_
        refine lv_lstore (lv' := [(6, .long t3), (4, .long x6), (8, .long t3)]) hx hb dX6_divisor_37 hl (by decide) rfl (fun ls hl => ?_)
        refine lv_goto (tgt := 17) hx hb dX6_divisor_39 (by decide) ?_
        exact ih17 _ _ _ _ _ (lv_sub hl [1, 0] rfl) hP hD hS hm
  have J_12 : ∀ (x2 : Int64) (s0 : Int64) (H : Heap) (locs : List Loc) (ls : Array Slot), lv_has ls 10 [(2, .long x2)] → va_P (dC, dI) vwCl [] H → va_D A [] → va_S A s.heap H locs → f_X6_divisor_J12 F x2 s0 = some o_r → W p l e rm_X6_divisor s m args below meth c H locs 0 0 Q (F0 m 12 ls [.long s0]) := by
    intro x2 s0 H locs ls hl hP hD hS hm
    unfold f_X6_divisor_J12 at hm
    refine lv_lstore (lv' := [(4, .long s0), (2, .long x2)]) hx hb dX6_divisor_12 hl (by decide) rfl (fun ls hl => ?_)
    refine lv_lload_n hx hb dX6_divisor_14 rfl (lv_at hl 1 rfl) ?_
    refine lv_lstore (lv' := [(6, .long x2), (4, .long s0), (2, .long x2)]) hx hb dX6_divisor_15 hl (by decide) rfl (fun ls hl => ?_)
    exact L_17 F _ _ _ _ _ (lv_sub hl [1, 0] rfl) hP hD hS hm
  unfold f_X6_divisor at hm
  refine lv_lload_n hx hb dX6_divisor_0 rfl (lv_at hl 0 rfl) ?_
  refine lv_lconst (v := (0 : Int64)) hx hb dX6_divisor_1 (by decide) ?_
  refine g_lcmp_ge (tgt := 11) hx hb dX6_divisor_2 rfl dX6_divisor_3 (by decide) (fun c4 => ?_) (fun c4 => ?_)
  · replace hm := ifp c4 hm
    refine lv_lload_n hx hb dX6_divisor_11 rfl (lv_at hl 0 rfl) ?_
    exact J_12 _ _ _ _ _ (lv_sub hl [1] rfl) hP hD hS hm
  · replace hm := ifn c4 hm
    refine lv_lload_n hx hb dX6_divisor_6 rfl (lv_at hl 0 rfl) ?_
    refine lv_lneg hx hb dX6_divisor_7 ?_
    refine lv_goto (tgt := 12) hx hb dX6_divisor_8 (by decide) ?_
    exact J_12 _ _ _ _ _ (lv_sub hl [1] rfl) hP hD hS hm
set_option maxRecDepth 100000 in
theorem m_X6_divisor (l : Launch) (dC : Nat → ClassId) (dI : Nat → Nat → Nat) (k : Nat → ClassId) (F : Nat) (sz : Nat)  (x0 : Int64) (x2 : Int64) {o_r : Int64} (hm : f_X6_divisor F x0 x2 = some o_r) : Met l yX6_divisor wsX6_divisor rm_X6_divisor (gPre dC dI k [.long x0, .long x2] sz []) (gQL dC dI (va_A [] sz) o_r []) 0 0 (va_A [] sz) := by
  refine g_entry (cc := cX6_divisor) (maxL := 10) (ret := (some .long)) (lv := [(0, .long x0), (2, .long x2)]) (by decide +kernel) rfl (Nat.le_of_ble_eq_true rfl) rfl (fun p e s m below meth c ls hx hb hr hml hts hown hlk hnm hsz hG hA hP hD hS hl => ?_)
  exact k_X6_divisor hx hb hml hts hown hG hA F x0 x2 o_r (fun pc H locs ls v hd ho hP hD hS => by cases ho; exact g_lret hx hb hr hlk hP hD hS hd) s.heap [] ls hl hP hD hS hm
end
section
set_option maxHeartbeats 4000000 in
set_option maxRecDepth 100000 in
theorem k_X6_layFraction {p : Program} {l : Launch} {e : Env} {s : State} {m : MethodId} {args : Array Value} {below : List Frame} {meth : Method} {c : Code} {A : Nat → Prop} {Q : State → Prop} {dC : Nat → ClassId} {dI : Nat → Nat → Nat} {k : Nat → ClassId} (hx : p.tables.exec = Jvm.exec) (hb : c.code = cX6_layFraction) (hml : c.maxLocals = 7) (hts : ∀ w ∈ wsX6_layFraction, w.before args s = true) (hown : s.vm.findClass RX6 = some m.cls) (hG : gK dC dI k A s) (hA : ∀ q : Nat, s.heap.size ≤ q → A q) (F : Nat) (n_t n_text n_readPage n_page n_trial n_book n_kept n_isKept n_seenStation n_seenOther n_seenWide n_seenWas n_sines n_at n_column n_gram n_right n_work : Nat) (v_thrown : Int32) (v_textSize : Int32) (v_place : Int32) (v_stations : Int32) (v_readStations : Int32) (v_doings : Int32) (v_seen : Int32) (v_seed : Int64) (v_wide : Int32) (v_up : Int64) (v_low : Int64) (x1 : Int64) (x3 : Int64) (o_v_up : (Int64)) (o_v_low : (Int64)) (RET : ∀ (pc : Nat) (H : Heap) (locs : List Loc) (ls : Array Slot) (q_v_up : Int64) (q_v_low : Int64), decode cX6_layFraction pc = .ok (.return_, 1) → some (q_v_up, q_v_low) = some (o_v_up, o_v_low) → va_P (dC, dI) vwCl (wd_471624 k n_t n_text n_readPage n_page n_trial n_book n_kept n_isKept n_seenStation n_seenOther n_seenWide n_seenWas n_sines n_at n_column n_gram n_right n_work v_thrown v_textSize v_place v_stations v_readStations v_doings v_seen v_seed v_wide q_v_up q_v_low) H → va_D A (wd_471624 k n_t n_text n_readPage n_page n_trial n_book n_kept n_isKept n_seenStation n_seenOther n_seenWide n_seenWas n_sines n_at n_column n_gram n_right n_work v_thrown v_textSize v_place v_stations v_readStations v_doings v_seen v_seed v_wide q_v_up q_v_low) → va_S A s.heap H locs → W p l e rm_X6_layFraction s m args below meth c H locs 0 0 Q (F0 m pc ls [])) (H : Heap) (locs : List Loc) (ls : Array Slot) (hl : lv_has ls 7 [(0, .ref n_t), (1, .long x1), (3, .long x3)]) (hP : va_P (dC, dI) vwCl (wd_471624 k n_t n_text n_readPage n_page n_trial n_book n_kept n_isKept n_seenStation n_seenOther n_seenWide n_seenWas n_sines n_at n_column n_gram n_right n_work v_thrown v_textSize v_place v_stations v_readStations v_doings v_seen v_seed v_wide v_up v_low) H) (hD : va_D A (wd_471624 k n_t n_text n_readPage n_page n_trial n_book n_kept n_isKept n_seenStation n_seenOther n_seenWide n_seenWas n_sines n_at n_column n_gram n_right n_work v_thrown v_textSize v_place v_stations v_readStations v_doings v_seen v_seed v_wide v_up v_low)) (hS : va_S A s.heap H locs) (hm : f_X6_layFraction F x1 x3 v_up v_low = some (o_v_up, o_v_low)) : W p l e rm_X6_layFraction s m args below meth c H locs 0 0 Q (F0 m 0 ls []) := by
  have hinX6 : ∀ w ∈ u_ws RX6 TX6 28, w ∈ wsX6_layFraction := by decide +kernel
  have k0 := hts (.fieldLink RX6 186 "CaveLegsModel" "up" "J") (by decide +kernel)
  have k1 := hts (.fieldLink RX6 190 "CaveLegsModel" "low" "J") (by decide +kernel)
  unfold f_X6_layFraction at hm
  refine lv_lload_n hx hb dX6_layFraction_0 rfl (lv_at hl 1 rfl) ?_
  refine lv_lload_n hx hb dX6_layFraction_1 rfl (lv_at hl 2 rfl) ?_
  obtain ⟨r1, e2, hm⟩ := bnd1_some hm
  refine g_calll (w2 := (wd_471624 k n_t n_text n_readPage n_page n_trial n_book n_kept n_isKept n_seenStation n_seenOther n_seenWide n_seenWas n_sines n_at n_column n_gram n_right n_work v_thrown v_textSize v_place v_stations v_readStations v_doings v_seen v_seed v_wide v_up v_low)) (va_runS (As := [.long x1, .long x3]) (rest := []) ⟨hx, hb, hml, hown, hts⟩ (m_X6_divisor l dC dI k F H.size  x1 x3 e2) (va_cwS 2 hts gX6_layFraction_X6_divisor rfl rfl rfl (by decide +kernel) ⟨Nat.le_of_ble_eq_true rfl, Nat.le_of_ble_eq_true rfl⟩) (g_preS hG hP hD hS hA [] rfl (by decide)) rfl rfl hl.1 rfl (lv_room (Nat.le_of_ble_eq_true rfl)) dX6_layFraction_2 ⟨Nat.le_of_ble_eq_true rfl, Nat.le_of_ble_eq_true rfl⟩) hP hD hS hA [] [0] [0] rfl rfl (by decide) (by decide) rfl (by decide) (fun H locs hP hD hS => ?_)
  refine lv_lstore (lv' := [(5, .long r1), (0, .ref n_t), (1, .long x1), (3, .long x3)]) hx hb dX6_layFraction_5 hl (by decide) rfl (fun ls hl => ?_)
  refine lv_aload_n hx hb dX6_layFraction_7 rfl (lv_at hl 1 rfl) ?_
  refine lv_lload_n hx hb dX6_layFraction_8 rfl (lv_at hl 2 rfl) ?_
  refine lv_lload hx hb dX6_layFraction_9 (lv_at hl 0 rfl) ?_
  obtain ⟨hz3, hm⟩ := chkDL_some hm
  refine lv_ldiv hx hb dX6_layFraction_11 hz3 ?_
  refine lv_topl (fun t4 et4 => ?_)
  replace hm := (nmd_eq et4).trans hm
  refine va_put (D := (dC, dI)) (ci := 6) (v := .long t4) (ty := .long) (C := RX6) (T := TX6) (N := 28) hx hb hts hinX6 tyX6 tyX6_ok nmX6 hown hG.1 hP hD hS 0 rfl rfl 26 (by decide) k0 (fun _ h9 => h9) rfl (by decide +kernel) rfl rfl (Nat.le_of_ble_eq_true rfl) dX6_layFraction_12 (fun H locs hP hD hS => ?_)
  replace hP : va_P (dC, dI) vwCl (wd_471624 k n_t n_text n_readPage n_page n_trial n_book n_kept n_isKept n_seenStation n_seenOther n_seenWide n_seenWas n_sines n_at n_column n_gram n_right n_work v_thrown v_textSize v_place v_stations v_readStations v_doings v_seen v_seed v_wide t4 v_low) H := hP
  replace hD : va_D A (wd_471624 k n_t n_text n_readPage n_page n_trial n_book n_kept n_isKept n_seenStation n_seenOther n_seenWide n_seenWas n_sines n_at n_column n_gram n_right n_work v_thrown v_textSize v_place v_stations v_readStations v_doings v_seen v_seed v_wide t4 v_low) := hD
  refine lv_aload_n hx hb dX6_layFraction_15 rfl (lv_at hl 1 rfl) ?_
  refine lv_lload_n hx hb dX6_layFraction_16 rfl (lv_at hl 3 rfl) ?_
  refine lv_lload hx hb dX6_layFraction_17 (lv_at hl 0 rfl) ?_
  obtain ⟨hz5, hm⟩ := chkDL_some hm
  refine lv_ldiv hx hb dX6_layFraction_19 hz5 ?_
  refine lv_topl (fun t6 et6 => ?_)
  replace hm := (nmd_eq et6).trans hm
  refine va_put (D := (dC, dI)) (ci := 6) (v := .long t6) (ty := .long) (C := RX6) (T := TX6) (N := 28) hx hb hts hinX6 tyX6 tyX6_ok nmX6 hown hG.1 hP hD hS 0 rfl rfl 27 (by decide) k1 (fun _ h9 => h9) rfl (by decide +kernel) rfl rfl (Nat.le_of_ble_eq_true rfl) dX6_layFraction_20 (fun H locs hP hD hS => ?_)
  replace hP : va_P (dC, dI) vwCl (wd_471624 k n_t n_text n_readPage n_page n_trial n_book n_kept n_isKept n_seenStation n_seenOther n_seenWide n_seenWas n_sines n_at n_column n_gram n_right n_work v_thrown v_textSize v_place v_stations v_readStations v_doings v_seen v_seed v_wide t4 t6) H := hP
  replace hD : va_D A (wd_471624 k n_t n_text n_readPage n_page n_trial n_book n_kept n_isKept n_seenStation n_seenOther n_seenWide n_seenWas n_sines n_at n_column n_gram n_right n_work v_thrown v_textSize v_place v_stations v_readStations v_doings v_seen v_seed v_wide t4 t6) := hD
  exact RET _ _ _ _ _ _ dX6_layFraction_23 hm hP hD hS
set_option maxRecDepth 100000 in
theorem m_X6_layFraction (l : Launch) (dC : Nat → ClassId) (dI : Nat → Nat → Nat) (k : Nat → ClassId) (F : Nat) (sz : Nat) (n_t n_text n_readPage n_page n_trial n_book n_kept n_isKept n_seenStation n_seenOther n_seenWide n_seenWas n_sines n_at n_column n_gram n_right n_work : Nat) (v_thrown : Int32) (v_textSize : Int32) (v_place : Int32) (v_stations : Int32) (v_readStations : Int32) (v_doings : Int32) (v_seen : Int32) (v_seed : Int64) (v_wide : Int32) (v_up : Int64) (v_low : Int64) (x1 : Int64) (x3 : Int64) {o_v_up : (Int64)} {o_v_low : (Int64)} (hm : f_X6_layFraction F x1 x3 v_up v_low = some (o_v_up, o_v_low)) : Met l yX6_layFraction wsX6_layFraction rm_X6_layFraction (gPre dC dI k [.ref n_t, .long x1, .long x3] sz (wd_471624 k n_t n_text n_readPage n_page n_trial n_book n_kept n_isKept n_seenStation n_seenOther n_seenWide n_seenWas n_sines n_at n_column n_gram n_right n_work v_thrown v_textSize v_place v_stations v_readStations v_doings v_seen v_seed v_wide v_up v_low)) (gQV dC dI (va_A (wd_471624 k n_t n_text n_readPage n_page n_trial n_book n_kept n_isKept n_seenStation n_seenOther n_seenWide n_seenWas n_sines n_at n_column n_gram n_right n_work v_thrown v_textSize v_place v_stations v_readStations v_doings v_seen v_seed v_wide v_up v_low) sz) (wd_471624 k n_t n_text n_readPage n_page n_trial n_book n_kept n_isKept n_seenStation n_seenOther n_seenWide n_seenWas n_sines n_at n_column n_gram n_right n_work v_thrown v_textSize v_place v_stations v_readStations v_doings v_seen v_seed v_wide o_v_up o_v_low)) 0 0 (va_A (wd_471624 k n_t n_text n_readPage n_page n_trial n_book n_kept n_isKept n_seenStation n_seenOther n_seenWide n_seenWas n_sines n_at n_column n_gram n_right n_work v_thrown v_textSize v_place v_stations v_readStations v_doings v_seen v_seed v_wide v_up v_low) sz) := by
  refine g_entry (cc := cX6_layFraction) (maxL := 7) (ret := none) (lv := [(0, .ref n_t), (1, .long x1), (3, .long x3)]) (by decide +kernel) rfl (Nat.le_of_ble_eq_true rfl) rfl (fun p e s m below meth c ls hx hb hr hml hts hown hlk hnm hsz hG hA hP hD hS hl => ?_)
  exact k_X6_layFraction hx hb hml hts hown hG hA F n_t n_text n_readPage n_page n_trial n_book n_kept n_isKept n_seenStation n_seenOther n_seenWide n_seenWas n_sines n_at n_column n_gram n_right n_work v_thrown v_textSize v_place v_stations v_readStations v_doings v_seen v_seed v_wide v_up v_low x1 x3 o_v_up o_v_low (fun pc H locs ls q_v_up q_v_low hd ho hP hD hS => by cases ho; exact g_vret hx hb hr hlk hP hD hS hd) s.heap [] ls hl hP hD hS hm
end
section
set_option maxHeartbeats 4000000 in
set_option maxRecDepth 100000 in
theorem k_X6_told {p : Program} {l : Launch} {e : Env} {s : State} {m : MethodId} {args : Array Value} {below : List Frame} {meth : Method} {c : Code} {A : Nat → Prop} {Q : State → Prop} {dC : Nat → ClassId} {dI : Nat → Nat → Nat} {k : Nat → ClassId} (hx : p.tables.exec = Jvm.exec) (hb : c.code = cX6_told) (hml : c.maxLocals = 2) (hts : ∀ w ∈ wsX6_told, w.before args s = true) (hown : s.vm.findClass RX6 = some m.cls) (hG : gK dC dI k A s) (hA : ∀ q : Nat, s.heap.size ≤ q → A q) (n_t n_text n_readPage n_page n_trial n_book n_kept n_isKept n_seenStation n_seenOther n_seenWide n_seenWas n_sines n_at n_column n_gram n_right n_work : Nat) (v_thrown : Int32) (v_textSize : Int32) (v_place : Int32) (v_stations : Int32) (v_readStations : Int32) (v_doings : Int32) (v_seen : Int32) (v_seed : Int64) (v_wide : Int32) (v_up : Int64) (v_low : Int64) (x1 : Int32) (o_r : Int64) (RET : ∀ (pc : Nat) (H : Heap) (locs : List Loc) (ls : Array Slot) (v : Int64), decode cX6_told pc = .ok (.lreturn, 1) → some v = some o_r → va_P (dC, dI) vwCl (wd_471624 k n_t n_text n_readPage n_page n_trial n_book n_kept n_isKept n_seenStation n_seenOther n_seenWide n_seenWas n_sines n_at n_column n_gram n_right n_work v_thrown v_textSize v_place v_stations v_readStations v_doings v_seen v_seed v_wide v_up v_low) H → va_D A (wd_471624 k n_t n_text n_readPage n_page n_trial n_book n_kept n_isKept n_seenStation n_seenOther n_seenWide n_seenWas n_sines n_at n_column n_gram n_right n_work v_thrown v_textSize v_place v_stations v_readStations v_doings v_seen v_seed v_wide v_up v_low) → va_S A s.heap H locs → W p l e rm_X6_told s m args below meth c H locs 0 0 Q (F0 m pc ls [.long v])) (H : Heap) (locs : List Loc) (ls : Array Slot) (hl : lv_has ls 2 [(0, .ref n_t), (1, .int x1)]) (hP : va_P (dC, dI) vwCl (wd_471624 k n_t n_text n_readPage n_page n_trial n_book n_kept n_isKept n_seenStation n_seenOther n_seenWide n_seenWas n_sines n_at n_column n_gram n_right n_work v_thrown v_textSize v_place v_stations v_readStations v_doings v_seen v_seed v_wide v_up v_low) H) (hD : va_D A (wd_471624 k n_t n_text n_readPage n_page n_trial n_book n_kept n_isKept n_seenStation n_seenOther n_seenWide n_seenWas n_sines n_at n_column n_gram n_right n_work v_thrown v_textSize v_place v_stations v_readStations v_doings v_seen v_seed v_wide v_up v_low)) (hS : va_S A s.heap H locs) (hm : f_X6_told x1 v_up v_low = some o_r) : W p l e rm_X6_told s m args below meth c H locs 0 0 Q (F0 m 0 ls []) := by
  have hinX6 : ∀ w ∈ u_ws RX6 TX6 28, w ∈ wsX6_told := by decide +kernel
  have k0 := hts (.fieldLink RX6 190 "CaveLegsModel" "low" "J") (by decide +kernel)
  have k1 := hts (.fieldLink RX6 186 "CaveLegsModel" "up" "J") (by decide +kernel)
  unfold f_X6_told at hm
  refine lv_iload_n hx hb dX6_told_0 rfl (lv_at hl 1 rfl) ?_
  refine lv_if_eq (tgt := 11) hx hb dX6_told_1 (by decide) (fun c1 => ?_) (fun c1 => ?_)
  · replace hm := ifp c1 hm
    refine lv_aload_n hx hb dX6_told_11 rfl (lv_at hl 0 rfl) ?_
    refine va_get (D := (dC, dI)) (ci := 6) (v := .long v_low) (C := RX6) (T := TX6) (N := 28) hx hb hts hinX6 hown hG.1 hP 0 rfl rfl 27 (by decide) k0 (fun _ h9 => h9) rfl dX6_told_12 ?_
    exact RET _ _ _ _ _ dX6_told_15 hm hP hD hS
  · replace hm := ifn c1 hm
    refine lv_aload_n hx hb dX6_told_4 rfl (lv_at hl 0 rfl) ?_
    refine va_get (D := (dC, dI)) (ci := 6) (v := .long v_up) (C := RX6) (T := TX6) (N := 28) hx hb hts hinX6 hown hG.1 hP 0 rfl rfl 26 (by decide) k1 (fun _ h9 => h9) rfl dX6_told_5 ?_
    refine lv_goto (tgt := 15) hx hb dX6_told_8 (by decide) ?_
    exact RET _ _ _ _ _ dX6_told_15 hm hP hD hS
set_option maxRecDepth 100000 in
theorem m_X6_told (l : Launch) (dC : Nat → ClassId) (dI : Nat → Nat → Nat) (k : Nat → ClassId) (sz : Nat) (n_t n_text n_readPage n_page n_trial n_book n_kept n_isKept n_seenStation n_seenOther n_seenWide n_seenWas n_sines n_at n_column n_gram n_right n_work : Nat) (v_thrown : Int32) (v_textSize : Int32) (v_place : Int32) (v_stations : Int32) (v_readStations : Int32) (v_doings : Int32) (v_seen : Int32) (v_seed : Int64) (v_wide : Int32) (v_up : Int64) (v_low : Int64) (x1 : Int32) {o_r : Int64} (hm : f_X6_told x1 v_up v_low = some o_r) : Met l yX6_told wsX6_told rm_X6_told (gPre dC dI k [.ref n_t, .int x1] sz (wd_471624 k n_t n_text n_readPage n_page n_trial n_book n_kept n_isKept n_seenStation n_seenOther n_seenWide n_seenWas n_sines n_at n_column n_gram n_right n_work v_thrown v_textSize v_place v_stations v_readStations v_doings v_seen v_seed v_wide v_up v_low)) (gQL dC dI (va_A (wd_471624 k n_t n_text n_readPage n_page n_trial n_book n_kept n_isKept n_seenStation n_seenOther n_seenWide n_seenWas n_sines n_at n_column n_gram n_right n_work v_thrown v_textSize v_place v_stations v_readStations v_doings v_seen v_seed v_wide v_up v_low) sz) o_r (wd_471624 k n_t n_text n_readPage n_page n_trial n_book n_kept n_isKept n_seenStation n_seenOther n_seenWide n_seenWas n_sines n_at n_column n_gram n_right n_work v_thrown v_textSize v_place v_stations v_readStations v_doings v_seen v_seed v_wide v_up v_low)) 0 0 (va_A (wd_471624 k n_t n_text n_readPage n_page n_trial n_book n_kept n_isKept n_seenStation n_seenOther n_seenWide n_seenWas n_sines n_at n_column n_gram n_right n_work v_thrown v_textSize v_place v_stations v_readStations v_doings v_seen v_seed v_wide v_up v_low) sz) := by
  refine g_entry (cc := cX6_told) (maxL := 2) (ret := (some .long)) (lv := [(0, .ref n_t), (1, .int x1)]) (by decide +kernel) rfl (Nat.le_of_ble_eq_true rfl) rfl (fun p e s m below meth c ls hx hb hr hml hts hown hlk hnm hsz hG hA hP hD hS hl => ?_)
  exact k_X6_told hx hb hml hts hown hG hA n_t n_text n_readPage n_page n_trial n_book n_kept n_isKept n_seenStation n_seenOther n_seenWide n_seenWas n_sines n_at n_column n_gram n_right n_work v_thrown v_textSize v_place v_stations v_readStations v_doings v_seen v_seed v_wide v_up v_low x1 o_r (fun pc H locs ls v hd ho hP hD hS => by cases ho; exact g_lret hx hb hr hlk hP hD hS hd) s.heap [] ls hl hP hD hS hm
end
section
set_option maxHeartbeats 4000000 in
set_option maxRecDepth 100000 in
theorem k_X6_numberOf {p : Program} {l : Launch} {e : Env} {s : State} {m : MethodId} {args : Array Value} {below : List Frame} {meth : Method} {c : Code} {A : Nat → Prop} {Q : State → Prop} {dC : Nat → ClassId} {dI : Nat → Nat → Nat} {k : Nat → ClassId} (hx : p.tables.exec = Jvm.exec) (hb : c.code = cX6_numberOf) (hml : c.maxLocals = 2) (hts : ∀ w ∈ wsX6_numberOf, w.before args s = true) (hown : s.vm.findClass RX6 = some m.cls) (hG : gK dC dI k A s) (hA : ∀ q : Nat, s.heap.size ≤ q → A q) (F : Nat) (n_t n_text n_readPage n_page n_trial n_book n_kept n_isKept n_seenStation n_seenOther n_seenWide n_seenWas n_sines n_at n_column n_gram n_right n_work : Nat) (v_thrown : Int32) (v_textSize : Int32) (v_place : Int32) (v_stations : Int32) (v_readStations : Int32) (v_doings : Int32) (v_seen : Int32) (v_seed : Int64) (v_wide : Int32) (v_up : Int64) (v_low : Int64) (r_column : Nat → Int32) (r_gram : Nat → Int64) (r_right : Nat → Int64) (r_work : Nat → Int64) (x1 : Int32) (o_r : Int64) (o_r_work : (Nat → Int64)) (RET : ∀ (pc : Nat) (H : Heap) (locs : List Loc) (ls : Array Slot) (v : Int64) (q_r_work : Nat → Int64), decode cX6_numberOf pc = .ok (.lreturn, 1) → some (v, q_r_work) = some (o_r, o_r_work) → va_P (dC, dI) vwCl (wd_f81932 k n_t n_text n_readPage n_page n_trial n_book n_kept n_isKept n_seenStation n_seenOther n_seenWide n_seenWas n_sines n_at n_column n_gram n_right n_work v_thrown v_textSize v_place v_stations v_readStations v_doings v_seen v_seed v_wide v_up v_low r_column r_gram r_right q_r_work) H → va_D A (wd_f81932 k n_t n_text n_readPage n_page n_trial n_book n_kept n_isKept n_seenStation n_seenOther n_seenWide n_seenWas n_sines n_at n_column n_gram n_right n_work v_thrown v_textSize v_place v_stations v_readStations v_doings v_seen v_seed v_wide v_up v_low r_column r_gram r_right q_r_work) → va_S A s.heap H locs → W p l e rm_X6_numberOf s m args below meth c H locs 0 0 Q (F0 m pc ls [.long v])) (H : Heap) (locs : List Loc) (ls : Array Slot) (hl : lv_has ls 2 [(0, .ref n_t), (1, .int x1)]) (hP : va_P (dC, dI) vwCl (wd_f81932 k n_t n_text n_readPage n_page n_trial n_book n_kept n_isKept n_seenStation n_seenOther n_seenWide n_seenWas n_sines n_at n_column n_gram n_right n_work v_thrown v_textSize v_place v_stations v_readStations v_doings v_seen v_seed v_wide v_up v_low r_column r_gram r_right r_work) H) (hD : va_D A (wd_f81932 k n_t n_text n_readPage n_page n_trial n_book n_kept n_isKept n_seenStation n_seenOther n_seenWide n_seenWas n_sines n_at n_column n_gram n_right n_work v_thrown v_textSize v_place v_stations v_readStations v_doings v_seen v_seed v_wide v_up v_low r_column r_gram r_right r_work)) (hS : va_S A s.heap H locs) (hm : f_X6_numberOf F x1 v_wide r_column r_gram r_right r_work = some (o_r, o_r_work)) : W p l e rm_X6_numberOf s m args below meth c H locs 0 0 Q (F0 m 0 ls []) := by
  have hinX6 : ∀ w ∈ u_ws RX6 TX6 28, w ∈ wsX6_numberOf := by decide +kernel
  have k0 := hts (.fieldLink RX6 54 "CaveLegsModel" "column" "[I") (by decide +kernel)
  unfold f_X6_numberOf at hm
  refine lv_aload_n hx hb dX6_numberOf_0 rfl (lv_at hl 0 rfl) ?_
  refine va_get (D := (dC, dI)) (ci := 6) (v := .ref n_column) (C := RX6) (T := TX6) (N := 28) hx hb hts hinX6 hown hG.1 hP 0 rfl rfl 22 (by decide) k0 (fun _ h9 => h9) rfl dX6_numberOf_1 ?_
  refine lv_iload_n hx hb dX6_numberOf_4 rfl (lv_at hl 1 rfl) ?_
  obtain ⟨hi1, hm⟩ := chk_some hm
  refine va_iald hx hb hG.1 hP 1 0 rfl rfl hi1 dX6_numberOf_5 ?_
  refine lv_bipush (v := (-9 : Int32)) hx hb dX6_numberOf_6 (by decide) ?_
  refine lv_icmp_ne (tgt := 15) hx hb dX6_numberOf_8 (by decide) (fun c2 => ?_) (fun c2 => ?_)
  · replace hm := ifn c2 hm
    refine lv_aload_n hx hb dX6_numberOf_15 rfl (lv_at hl 0 rfl) ?_
    refine lv_aload_n hx hb dX6_numberOf_16 rfl (lv_at hl 0 rfl) ?_
    refine va_get (D := (dC, dI)) (ci := 6) (v := .ref n_column) (C := RX6) (T := TX6) (N := 28) hx hb hts hinX6 hown hG.1 hP 0 rfl rfl 22 (by decide) k0 (fun _ h9 => h9) rfl dX6_numberOf_17 ?_
    refine lv_iload_n hx hb dX6_numberOf_20 rfl (lv_at hl 1 rfl) ?_
    obtain ⟨hi3, hm⟩ := chk_some hm
    refine va_iald hx hb hG.1 hP 1 0 rfl rfl hi3 dX6_numberOf_21 ?_
    obtain ⟨r4, w5, e6, hm⟩ := bnd2_some hm
    refine g_calll (w2 := (wd_f81932 k n_t n_text n_readPage n_page n_trial n_book n_kept n_isKept n_seenStation n_seenOther n_seenWide n_seenWas n_sines n_at n_column n_gram n_right n_work v_thrown v_textSize v_place v_stations v_readStations v_doings v_seen v_seed v_wide v_up v_low r_column r_gram r_right w5)) (va_runV (As := [.int (r_column (Int32.toNatClampNeg x1))]) (rest := []) ⟨hx, hb, hml, hown, hts⟩ (m_X6_determinant l dC dI k F H.size n_t n_text n_readPage n_page n_trial n_book n_kept n_isKept n_seenStation n_seenOther n_seenWide n_seenWas n_sines n_at n_column n_gram n_right n_work v_thrown v_textSize v_place v_stations v_readStations v_doings v_seen v_seed v_wide v_up v_low r_gram r_right r_work (r_column (Int32.toNatClampNeg x1)) e6) (cwV 1 hts gX6_numberOf_X6_determinant rfl rfl rfl (by decide +kernel) ⟨Nat.le_of_ble_eq_true rfl, Nat.le_of_ble_eq_true rfl⟩) (g_preV hG hP hD hS hA [0, 2, 3, 4] rfl (by decide) (ci := 6) (q0 := 0) rfl rfl) rfl rfl hl.1 rfl (lv_room (Nat.le_of_ble_eq_true rfl)) dX6_numberOf_22 ⟨Nat.le_of_ble_eq_true rfl, Nat.le_of_ble_eq_true rfl⟩) hP hD hS hA [0, 2, 3, 4] [1] [1, 0, 2, 3, 4] rfl rfl (by decide) (by decide) rfl (by decide) (fun H locs hP hD hS => ?_)
    exact RET _ _ _ _ _ _ dX6_numberOf_25 hm hP hD hS
  · replace hm := ifp c2 hm
    refine lv_lconst (v := (0 : Int64)) hx hb dX6_numberOf_11 (by decide) ?_
    refine lv_goto (tgt := 25) hx hb dX6_numberOf_12 (by decide) ?_
    exact RET _ _ _ _ _ _ dX6_numberOf_25 hm hP hD hS
set_option maxRecDepth 100000 in
theorem m_X6_numberOf (l : Launch) (dC : Nat → ClassId) (dI : Nat → Nat → Nat) (k : Nat → ClassId) (F : Nat) (sz : Nat) (n_t n_text n_readPage n_page n_trial n_book n_kept n_isKept n_seenStation n_seenOther n_seenWide n_seenWas n_sines n_at n_column n_gram n_right n_work : Nat) (v_thrown : Int32) (v_textSize : Int32) (v_place : Int32) (v_stations : Int32) (v_readStations : Int32) (v_doings : Int32) (v_seen : Int32) (v_seed : Int64) (v_wide : Int32) (v_up : Int64) (v_low : Int64) (r_column : Nat → Int32) (r_gram : Nat → Int64) (r_right : Nat → Int64) (r_work : Nat → Int64) (x1 : Int32) {o_r : Int64} {o_r_work : (Nat → Int64)} (hm : f_X6_numberOf F x1 v_wide r_column r_gram r_right r_work = some (o_r, o_r_work)) : Met l yX6_numberOf wsX6_numberOf rm_X6_numberOf (gPre dC dI k [.ref n_t, .int x1] sz (wd_f81932 k n_t n_text n_readPage n_page n_trial n_book n_kept n_isKept n_seenStation n_seenOther n_seenWide n_seenWas n_sines n_at n_column n_gram n_right n_work v_thrown v_textSize v_place v_stations v_readStations v_doings v_seen v_seed v_wide v_up v_low r_column r_gram r_right r_work)) (gQL dC dI (va_A (wd_f81932 k n_t n_text n_readPage n_page n_trial n_book n_kept n_isKept n_seenStation n_seenOther n_seenWide n_seenWas n_sines n_at n_column n_gram n_right n_work v_thrown v_textSize v_place v_stations v_readStations v_doings v_seen v_seed v_wide v_up v_low r_column r_gram r_right r_work) sz) o_r (wd_f81932 k n_t n_text n_readPage n_page n_trial n_book n_kept n_isKept n_seenStation n_seenOther n_seenWide n_seenWas n_sines n_at n_column n_gram n_right n_work v_thrown v_textSize v_place v_stations v_readStations v_doings v_seen v_seed v_wide v_up v_low r_column r_gram r_right o_r_work)) 0 0 (va_A (wd_f81932 k n_t n_text n_readPage n_page n_trial n_book n_kept n_isKept n_seenStation n_seenOther n_seenWide n_seenWas n_sines n_at n_column n_gram n_right n_work v_thrown v_textSize v_place v_stations v_readStations v_doings v_seen v_seed v_wide v_up v_low r_column r_gram r_right r_work) sz) := by
  refine g_entry (cc := cX6_numberOf) (maxL := 2) (ret := (some .long)) (lv := [(0, .ref n_t), (1, .int x1)]) (by decide +kernel) rfl (Nat.le_of_ble_eq_true rfl) rfl (fun p e s m below meth c ls hx hb hr hml hts hown hlk hnm hsz hG hA hP hD hS hl => ?_)
  exact k_X6_numberOf hx hb hml hts hown hG hA F n_t n_text n_readPage n_page n_trial n_book n_kept n_isKept n_seenStation n_seenOther n_seenWide n_seenWas n_sines n_at n_column n_gram n_right n_work v_thrown v_textSize v_place v_stations v_readStations v_doings v_seen v_seed v_wide v_up v_low r_column r_gram r_right r_work x1 o_r o_r_work (fun pc H locs ls v q_r_work hd ho hP hD hS => by cases ho; exact g_lret hx hb hr hlk hP hD hS hd) s.heap [] ls hl hP hD hS hm
end
section
set_option maxHeartbeats 4000000 in
set_option maxRecDepth 100000 in
theorem k_X6_evened {p : Program} {l : Launch} {e : Env} {s : State} {m : MethodId} {args : Array Value} {below : List Frame} {meth : Method} {c : Code} {A : Nat → Prop} {Q : State → Prop} {dC : Nat → ClassId} {dI : Nat → Nat → Nat} {k : Nat → ClassId} (hx : p.tables.exec = Jvm.exec) (hb : c.code = cX6_evened) (hml : c.maxLocals = 5) (hts : ∀ w ∈ wsX6_evened, w.before args s = true) (hown : s.vm.findClass RX6 = some m.cls) (hG : gK dC dI k A s) (hA : ∀ q : Nat, s.heap.size ≤ q → A q) (F : Nat) (n_t n_text n_readPage n_page n_trial n_book n_kept n_isKept n_seenStation n_seenOther n_seenWide n_seenWas n_sines n_at n_column n_gram n_right n_work : Nat) (v_thrown : Int32) (v_textSize : Int32) (v_place : Int32) (v_stations : Int32) (v_readStations : Int32) (v_doings : Int32) (v_seen : Int32) (v_seed : Int64) (v_wide : Int32) (v_up : Int64) (v_low : Int64) (r_page : Nat → Int32) (r_sines : Nat → Int32) (r_column : Nat → Int32) (r_gram : Nat → Int64) (r_right : Nat → Int64) (r_work : Nat → Int64) (x1 : Int32) (x2 : Int32) (x3 : Int32) (o_r : Int64) (o_v_thrown : (Int32)) (o_v_wide : (Int32)) (o_v_up : (Int64)) (o_v_low : (Int64)) (o_r_column : (Nat → Int32)) (o_r_gram : (Nat → Int64)) (o_r_right : (Nat → Int64)) (o_r_work : (Nat → Int64)) (RET : ∀ (pc : Nat) (H : Heap) (locs : List Loc) (ls : Array Slot) (v : Int64) (q_v_thrown : Int32) (q_v_wide : Int32) (q_v_up : Int64) (q_v_low : Int64) (q_r_column : Nat → Int32) (q_r_gram : Nat → Int64) (q_r_right : Nat → Int64) (q_r_work : Nat → Int64), decode cX6_evened pc = .ok (.lreturn, 1) → some (v, q_v_thrown, q_v_wide, q_v_up, q_v_low, q_r_column, q_r_gram, q_r_right, q_r_work) = some (o_r, o_v_thrown, o_v_wide, o_v_up, o_v_low, o_r_column, o_r_gram, o_r_right, o_r_work) → va_P (dC, dI) vwCl (wd_88cc5a k n_t n_text n_readPage n_page n_trial n_book n_kept n_isKept n_seenStation n_seenOther n_seenWide n_seenWas n_sines n_at n_column n_gram n_right n_work q_v_thrown v_textSize v_place v_stations v_readStations v_doings v_seen v_seed q_v_wide q_v_up q_v_low r_page r_sines q_r_column q_r_gram q_r_right q_r_work) H → va_D A (wd_88cc5a k n_t n_text n_readPage n_page n_trial n_book n_kept n_isKept n_seenStation n_seenOther n_seenWide n_seenWas n_sines n_at n_column n_gram n_right n_work q_v_thrown v_textSize v_place v_stations v_readStations v_doings v_seen v_seed q_v_wide q_v_up q_v_low r_page r_sines q_r_column q_r_gram q_r_right q_r_work) → va_S A s.heap H locs → W p l e rm_X6_evened s m args below meth c H locs 0 0 Q (F0 m pc ls [.long v])) (H : Heap) (locs : List Loc) (ls : Array Slot) (hl : lv_has ls 5 [(0, .ref n_t), (1, .int x1), (2, .int x2), (3, .int x3)]) (hP : va_P (dC, dI) vwCl (wd_88cc5a k n_t n_text n_readPage n_page n_trial n_book n_kept n_isKept n_seenStation n_seenOther n_seenWide n_seenWas n_sines n_at n_column n_gram n_right n_work v_thrown v_textSize v_place v_stations v_readStations v_doings v_seen v_seed v_wide v_up v_low r_page r_sines r_column r_gram r_right r_work) H) (hD : va_D A (wd_88cc5a k n_t n_text n_readPage n_page n_trial n_book n_kept n_isKept n_seenStation n_seenOther n_seenWide n_seenWas n_sines n_at n_column n_gram n_right n_work v_thrown v_textSize v_place v_stations v_readStations v_doings v_seen v_seed v_wide v_up v_low r_page r_sines r_column r_gram r_right r_work)) (hS : va_S A s.heap H locs) (hm : f_X6_evened F x1 x2 x3 v_thrown v_stations v_wide v_up v_low r_page r_sines r_column r_gram r_right r_work = some (o_r, o_v_thrown, o_v_wide, o_v_up, o_v_low, o_r_column, o_r_gram, o_r_right, o_r_work)) : W p l e rm_X6_evened s m args below meth c H locs 0 0 Q (F0 m 0 ls []) := by
  have hinX6 : ∀ w ∈ u_ws RX6 TX6 28, w ∈ wsX6_evened := by decide +kernel
  have k0 := hts (.fieldLink RX6 67 "CaveLegsModel" "thrown" "I") (by decide +kernel)
  have k1 := hts (.constantLong RX6 166 (2)) (by decide +kernel)
  have k2 := hts (.fieldLink RX6 20 "CaveLegsModel" "page" "[I") (by decide +kernel)
  have k3 := hts (.constantLong RX6 201 (-3)) (by decide +kernel)
  have k4 := hts (.constantLong RX6 199 (-2)) (by decide +kernel)
  have k5 := hts (.constantLong RX6 197 (-1)) (by decide +kernel)
  unfold f_X6_evened at hm
  refine lv_aload_n hx hb dX6_evened_0 rfl (lv_at hl 0 rfl) ?_
  refine lv_iconst (v := (0 : Int32)) hx hb dX6_evened_1 (by decide) ?_
  refine va_put (D := (dC, dI)) (ci := 6) (v := .int (0 : Int32)) (ty := .int) (C := RX6) (T := TX6) (N := 28) hx hb hts hinX6 tyX6 tyX6_ok nmX6 hown hG.1 hP hD hS 0 rfl rfl 0 (by decide) k0 (fun _ h9 => h9) rfl (by decide +kernel) rfl rfl (Nat.le_of_ble_eq_true rfl) dX6_evened_2 (fun H locs hP hD hS => ?_)
  replace hP : va_P (dC, dI) vwCl (wd_88cc5a k n_t n_text n_readPage n_page n_trial n_book n_kept n_isKept n_seenStation n_seenOther n_seenWide n_seenWas n_sines n_at n_column n_gram n_right n_work (0 : Int32) v_textSize v_place v_stations v_readStations v_doings v_seen v_seed v_wide v_up v_low r_page r_sines r_column r_gram r_right r_work) H := hP
  replace hD : va_D A (wd_88cc5a k n_t n_text n_readPage n_page n_trial n_book n_kept n_isKept n_seenStation n_seenOther n_seenWide n_seenWas n_sines n_at n_column n_gram n_right n_work (0 : Int32) v_textSize v_place v_stations v_readStations v_doings v_seen v_seed v_wide v_up v_low r_page r_sines r_column r_gram r_right r_work) := hD
  refine lv_aload_n hx hb dX6_evened_5 rfl (lv_at hl 0 rfl) ?_
  refine lv_iload_n hx hb dX6_evened_6 rfl (lv_at hl 1 rfl) ?_
  obtain ⟨r1, e2, hm⟩ := bnd1_some hm
  refine g_calli (w2 := (wd_88cc5a k n_t n_text n_readPage n_page n_trial n_book n_kept n_isKept n_seenStation n_seenOther n_seenWide n_seenWas n_sines n_at n_column n_gram n_right n_work (0 : Int32) v_textSize v_place v_stations v_readStations v_doings v_seen v_seed v_wide v_up v_low r_page r_sines r_column r_gram r_right r_work)) (va_runV (As := [.int x1]) (rest := []) ⟨hx, hb, hml, hown, hts⟩ (m_X6_noStation l dC dI k H.size n_t n_text n_readPage n_page n_trial n_book n_kept n_isKept n_seenStation n_seenOther n_seenWide n_seenWas n_sines n_at n_column n_gram n_right n_work (0 : Int32) v_textSize v_place v_stations v_readStations v_doings v_seen v_seed v_wide v_up v_low x1 e2) (cwV 1 hts gX6_evened_X6_noStation rfl rfl rfl (by decide +kernel) ⟨Nat.le_of_ble_eq_true rfl, Nat.le_of_ble_eq_true rfl⟩) (g_preV hG hP hD hS hA [0] rfl (by decide) (ci := 6) (q0 := 0) rfl rfl) rfl rfl hl.1 rfl (lv_room (Nat.le_of_ble_eq_true rfl)) dX6_evened_7 ⟨Nat.le_of_ble_eq_true rfl, Nat.le_of_ble_eq_true rfl⟩) hP hD hS hA [0] [1, 2, 3, 4, 5, 6] [6, 0, 1, 2, 3, 4, 5] rfl rfl (by decide) (by decide) rfl (by decide) (fun H locs hP hD hS => ?_)
  refine lv_if_eq (tgt := 17) hx hb dX6_evened_10 (by decide) (fun c3 => ?_) (fun c3 => ?_)
  · replace hm := ifp c3 hm
    refine lv_iload_n hx hb dX6_evened_17 rfl (lv_at hl 2 rfl) ?_
    refine g_i2l hx hb dX6_evened_18 ?_
    refine lv_lconst (v := (0 : Int64)) hx hb dX6_evened_19 (by decide) ?_
    refine lv_ldc2 (v := (2 : Int64)) hx hb hown k1 dX6_evened_20 ?_
    obtain ⟨r4, e5, hm⟩ := bnd1_some hm
    refine g_calli (w2 := (wd_88cc5a k n_t n_text n_readPage n_page n_trial n_book n_kept n_isKept n_seenStation n_seenOther n_seenWide n_seenWas n_sines n_at n_column n_gram n_right n_work (0 : Int32) v_textSize v_place v_stations v_readStations v_doings v_seen v_seed v_wide v_up v_low r_page r_sines r_column r_gram r_right r_work)) (va_runS (As := [.long (Int32.toInt64 x2), .long (0 : Int64), .long (2 : Int64)]) (rest := []) ⟨hx, hb, hml, hown, hts⟩ (m_X6_in l dC dI k H.size  (Int32.toInt64 x2) (0 : Int64) (2 : Int64) e5) (va_cwS 3 hts gX6_evened_X6_in rfl rfl rfl (by decide +kernel) ⟨Nat.le_of_ble_eq_true rfl, Nat.le_of_ble_eq_true rfl⟩) (g_preS hG hP hD hS hA [] rfl (by decide)) rfl rfl hl.1 rfl (lv_room (Nat.le_of_ble_eq_true rfl)) dX6_evened_23 ⟨Nat.le_of_ble_eq_true rfl, Nat.le_of_ble_eq_true rfl⟩) hP hD hS hA [] [0, 1, 2, 3, 4, 5, 6] [0, 1, 2, 3, 4, 5, 6] rfl rfl (by decide) (by decide) rfl (by decide) (fun H locs hP hD hS => ?_)
    refine lv_if_ne (tgt := 33) hx hb dX6_evened_26 (by decide) (fun c6 => ?_) (fun c6 => ?_)
    · replace hm := ifn c6 hm
      refine lv_aload_n hx hb dX6_evened_33 rfl (lv_at hl 0 rfl) ?_
      refine lv_aload_n hx hb dX6_evened_34 rfl (lv_at hl 0 rfl) ?_
      refine va_get (D := (dC, dI)) (ci := 6) (v := .ref n_page) (C := RX6) (T := TX6) (N := 28) hx hb hts hinX6 hown hG.1 hP 0 rfl rfl 7 (by decide) k2 (fun _ h9 => h9) rfl dX6_evened_35 ?_
      refine lv_aload_n hx hb dX6_evened_38 rfl (lv_at hl 0 rfl) ?_
      refine va_get (D := (dC, dI)) (ci := 6) (v := .ref n_page) (C := RX6) (T := TX6) (N := 28) hx hb hts hinX6 hown hG.1 hP 0 rfl rfl 7 (by decide) k2 (fun _ h9 => h9) rfl dX6_evened_39 ?_
      obtain ⟨r7, e8, hm⟩ := bnd1_some hm
      refine g_calli (w2 := (wd_88cc5a k n_t n_text n_readPage n_page n_trial n_book n_kept n_isKept n_seenStation n_seenOther n_seenWide n_seenWas n_sines n_at n_column n_gram n_right n_work (0 : Int32) v_textSize v_place v_stations v_readStations v_doings v_seen v_seed v_wide v_up v_low r_page r_sines r_column r_gram r_right r_work)) (va_runS (As := [.ref n_page]) (rest := [.ref n_page, .ref n_t]) ⟨hx, hb, hml, hown, hts⟩ (m_X6_all l dC dI k H.size n_page r_page  e8) (va_cwS 1 hts gX6_evened_X6_all rfl rfl rfl (by decide +kernel) ⟨Nat.le_of_ble_eq_true rfl, Nat.le_of_ble_eq_true rfl⟩) (g_preS hG hP hD hS hA [1] rfl (by decide)) rfl rfl hl.1 rfl (lv_room (Nat.le_of_ble_eq_true rfl)) dX6_evened_42 ⟨Nat.le_of_ble_eq_true rfl, Nat.le_of_ble_eq_true rfl⟩) hP hD hS hA [1] [0, 2, 3, 4, 5, 6] [0, 6, 1, 2, 3, 4, 5] rfl rfl (by decide) (by decide) rfl (by decide) (fun H locs hP hD hS => ?_)
      obtain ⟨r9, e10, hm⟩ := bnd1_some hm
      refine g_calli (w2 := (wd_88cc5a k n_t n_text n_readPage n_page n_trial n_book n_kept n_isKept n_seenStation n_seenOther n_seenWide n_seenWas n_sines n_at n_column n_gram n_right n_work (0 : Int32) v_textSize v_place v_stations v_readStations v_doings v_seen v_seed v_wide v_up v_low r_page r_sines r_column r_gram r_right r_work)) (va_runV (As := [.ref n_page, .int r7]) (rest := []) ⟨hx, hb, hml, hown, hts⟩ (m_X6_tiedBy l dC dI k F H.size n_t n_page n_text n_readPage n_page n_trial n_book n_kept n_isKept n_seenStation n_seenOther n_seenWide n_seenWas n_sines n_at n_column n_gram n_right n_work (0 : Int32) v_textSize v_place v_stations v_readStations v_doings v_seen v_seed v_wide v_up v_low r_page r7 e10) (cwV 2 hts gX6_evened_X6_tiedBy rfl rfl rfl (by decide +kernel) ⟨Nat.le_of_ble_eq_true rfl, Nat.le_of_ble_eq_true rfl⟩) (g_preV hG hP hD hS hA [0, 1] rfl (by decide) (ci := 6) (q0 := 0) rfl rfl) rfl rfl hl.1 rfl (lv_room (Nat.le_of_ble_eq_true rfl)) dX6_evened_45 ⟨Nat.le_of_ble_eq_true rfl, Nat.le_of_ble_eq_true rfl⟩) hP hD hS hA [0, 1] [2, 3, 4, 5, 6] [5, 6, 0, 1, 2, 3, 4] rfl rfl (by decide) (by decide) rfl (by decide) (fun H locs hP hD hS => ?_)
      refine lv_istore (lv' := [(4, .int r9), (0, .ref n_t), (1, .int x1), (2, .int x2), (3, .int x3)]) hx hb dX6_evened_48 hl (by decide) rfl (fun ls hl => ?_)
      refine lv_iload hx hb dX6_evened_50 (lv_at hl 0 rfl) ?_
      refine lv_iload_n hx hb dX6_evened_52 rfl (lv_at hl 2 rfl) ?_
      obtain ⟨r11, e12, hm⟩ := bnd1_some hm
      refine g_calli (w2 := (wd_88cc5a k n_t n_text n_readPage n_page n_trial n_book n_kept n_isKept n_seenStation n_seenOther n_seenWide n_seenWas n_sines n_at n_column n_gram n_right n_work (0 : Int32) v_textSize v_place v_stations v_readStations v_doings v_seen v_seed v_wide v_up v_low r_page r_sines r_column r_gram r_right r_work)) (va_runS (As := [.int r9, .int x1]) (rest := []) ⟨hx, hb, hml, hown, hts⟩ (m_X6_has l dC dI k H.size  r9 x1 e12) (va_cwS 2 hts gX6_evened_X6_has rfl rfl rfl (by decide +kernel) ⟨Nat.le_of_ble_eq_true rfl, Nat.le_of_ble_eq_true rfl⟩) (g_preS hG hP hD hS hA [] rfl (by decide)) rfl rfl hl.1 rfl (lv_room (Nat.le_of_ble_eq_true rfl)) dX6_evened_53 ⟨Nat.le_of_ble_eq_true rfl, Nat.le_of_ble_eq_true rfl⟩) hP hD hS hA [] [0, 1, 2, 3, 4, 5, 6] [0, 1, 2, 3, 4, 5, 6] rfl rfl (by decide) (by decide) rfl (by decide) (fun H locs hP hD hS => ?_)
      refine lv_if_ne (tgt := 63) hx hb dX6_evened_56 (by decide) (fun c13 => ?_) (fun c13 => ?_)
      · replace hm := ifn c13 hm
        refine lv_aload_n hx hb dX6_evened_63 rfl (lv_at hl 1 rfl) ?_
        refine lv_aload_n hx hb dX6_evened_64 rfl (lv_at hl 1 rfl) ?_
        refine va_get (D := (dC, dI)) (ci := 6) (v := .ref n_page) (C := RX6) (T := TX6) (N := 28) hx hb hts hinX6 hown hG.1 hP 0 rfl rfl 7 (by decide) k2 (fun _ h9 => h9) rfl dX6_evened_65 ?_
        refine lv_aload_n hx hb dX6_evened_68 rfl (lv_at hl 1 rfl) ?_
        refine va_get (D := (dC, dI)) (ci := 6) (v := .ref n_page) (C := RX6) (T := TX6) (N := 28) hx hb hts hinX6 hown hG.1 hP 0 rfl rfl 7 (by decide) k2 (fun _ h9 => h9) rfl dX6_evened_69 ?_
        obtain ⟨r14, e15, hm⟩ := bnd1_some hm
        refine g_calli (w2 := (wd_88cc5a k n_t n_text n_readPage n_page n_trial n_book n_kept n_isKept n_seenStation n_seenOther n_seenWide n_seenWas n_sines n_at n_column n_gram n_right n_work (0 : Int32) v_textSize v_place v_stations v_readStations v_doings v_seen v_seed v_wide v_up v_low r_page r_sines r_column r_gram r_right r_work)) (va_runS (As := [.ref n_page]) (rest := [.ref n_page, .ref n_t]) ⟨hx, hb, hml, hown, hts⟩ (m_X6_all l dC dI k H.size n_page r_page  e15) (va_cwS 1 hts gX6_evened_X6_all rfl rfl rfl (by decide +kernel) ⟨Nat.le_of_ble_eq_true rfl, Nat.le_of_ble_eq_true rfl⟩) (g_preS hG hP hD hS hA [1] rfl (by decide)) rfl rfl hl.1 rfl (lv_room (Nat.le_of_ble_eq_true rfl)) dX6_evened_72 ⟨Nat.le_of_ble_eq_true rfl, Nat.le_of_ble_eq_true rfl⟩) hP hD hS hA [1] [0, 2, 3, 4, 5, 6] [0, 6, 1, 2, 3, 4, 5] rfl rfl (by decide) (by decide) rfl (by decide) (fun H locs hP hD hS => ?_)
        refine lv_iload hx hb dX6_evened_75 (lv_at hl 0 rfl) ?_
        refine lv_iload_n hx hb dX6_evened_77 rfl (lv_at hl 3 rfl) ?_
        obtain ⟨w16, w17, w18, w19, e20, hm⟩ := bnd4_some hm
        refine g_callv (w2 := (wd_88cc5a k n_t n_text n_readPage n_page n_trial n_book n_kept n_isKept n_seenStation n_seenOther n_seenWide n_seenWas n_sines n_at n_column n_gram n_right n_work (0 : Int32) v_textSize v_place v_stations v_readStations v_doings v_seen v_seed w16 v_up v_low r_page r_sines w17 w18 w19 r_work)) (va_runV (As := [.ref n_page, .int r14, .int r9, .int x2]) (rest := []) ⟨hx, hb, hml, hown, hts⟩ (m_X6_layGram l dC dI k F H.size n_t n_page n_text n_readPage n_page n_trial n_book n_kept n_isKept n_seenStation n_seenOther n_seenWide n_seenWas n_sines n_at n_column n_gram n_right n_work (0 : Int32) v_textSize v_place v_stations v_readStations v_doings v_seen v_seed v_wide v_up v_low r_sines r_column r_gram r_right r_page r14 r9 x2 e20) (cwV 4 hts gX6_evened_X6_layGram rfl rfl rfl (by decide +kernel) ⟨Nat.le_of_ble_eq_true rfl, Nat.le_of_ble_eq_true rfl⟩) (g_preV hG hP hD hS hA [0, 2, 3, 4, 5, 1] rfl (by decide) (ci := 6) (q0 := 0) rfl rfl) rfl rfl hl.1 rfl (lv_room (Nat.le_of_ble_eq_true rfl)) dX6_evened_78 ⟨Nat.le_of_ble_eq_true rfl, Nat.le_of_ble_eq_true rfl⟩) hP hD hS hA [0, 2, 3, 4, 5, 1] [6] [1, 6, 2, 3, 4, 5, 0] rfl rfl (by decide) (by decide) rfl (by decide) (fun H locs hP hD hS => ?_)
        refine lv_aload_n hx hb dX6_evened_81 rfl (lv_at hl 1 rfl) ?_
        refine lv_aload_n hx hb dX6_evened_82 rfl (lv_at hl 1 rfl) ?_
        refine lv_iload_n hx hb dX6_evened_83 rfl (lv_at hl 2 rfl) ?_
        obtain ⟨r21, w22, e23, hm⟩ := bnd2_some hm
        refine g_calll (w2 := (wd_88cc5a k n_t n_text n_readPage n_page n_trial n_book n_kept n_isKept n_seenStation n_seenOther n_seenWide n_seenWas n_sines n_at n_column n_gram n_right n_work (0 : Int32) v_textSize v_place v_stations v_readStations v_doings v_seen v_seed w16 v_up v_low r_page r_sines w17 w18 w19 w22)) (va_runV (As := [.int x1]) (rest := [.ref n_t]) ⟨hx, hb, hml, hown, hts⟩ (m_X6_numberOf l dC dI k F H.size n_t n_text n_readPage n_page n_trial n_book n_kept n_isKept n_seenStation n_seenOther n_seenWide n_seenWas n_sines n_at n_column n_gram n_right n_work (0 : Int32) v_textSize v_place v_stations v_readStations v_doings v_seen v_seed w16 v_up v_low w17 w18 w19 r_work x1 e23) (cwV 1 hts gX6_evened_X6_numberOf rfl rfl rfl (by decide +kernel) ⟨Nat.le_of_ble_eq_true rfl, Nat.le_of_ble_eq_true rfl⟩) (g_preV hG hP hD hS hA [0, 3, 4, 5, 6] rfl (by decide) (ci := 6) (q0 := 0) rfl rfl) rfl rfl hl.1 rfl (lv_room (Nat.le_of_ble_eq_true rfl)) dX6_evened_84 ⟨Nat.le_of_ble_eq_true rfl, Nat.le_of_ble_eq_true rfl⟩) hP hD hS hA [0, 3, 4, 5, 6] [1, 2] [2, 0, 1, 3, 4, 5, 6] rfl rfl (by decide) (by decide) rfl (by decide) (fun H locs hP hD hS => ?_)
        refine lv_aload_n hx hb dX6_evened_87 rfl (lv_at hl 1 rfl) ?_
        refine lv_bipush (v := (-9 : Int32)) hx hb dX6_evened_88 (by decide) ?_
        obtain ⟨r24, w25, e26, hm⟩ := bnd2_some hm
        refine g_calll (w2 := (wd_88cc5a k n_t n_text n_readPage n_page n_trial n_book n_kept n_isKept n_seenStation n_seenOther n_seenWide n_seenWas n_sines n_at n_column n_gram n_right n_work (0 : Int32) v_textSize v_place v_stations v_readStations v_doings v_seen v_seed w16 v_up v_low r_page r_sines w17 w18 w19 w25)) (va_runV (As := [.int (-9 : Int32)]) (rest := [.long r21, .ref n_t]) ⟨hx, hb, hml, hown, hts⟩ (m_X6_determinant l dC dI k F H.size n_t n_text n_readPage n_page n_trial n_book n_kept n_isKept n_seenStation n_seenOther n_seenWide n_seenWas n_sines n_at n_column n_gram n_right n_work (0 : Int32) v_textSize v_place v_stations v_readStations v_doings v_seen v_seed w16 v_up v_low w18 w19 w22 (-9 : Int32) e26) (cwV 1 hts gX6_evened_X6_determinant rfl rfl rfl (by decide +kernel) ⟨Nat.le_of_ble_eq_true rfl, Nat.le_of_ble_eq_true rfl⟩) (g_preV hG hP hD hS hA [0, 4, 5, 6] rfl (by decide) (ci := 6) (q0 := 0) rfl rfl) rfl rfl hl.1 rfl (lv_room (Nat.le_of_ble_eq_true rfl)) dX6_evened_90 ⟨Nat.le_of_ble_eq_true rfl, Nat.le_of_ble_eq_true rfl⟩) hP hD hS hA [0, 4, 5, 6] [1, 2, 3] [3, 0, 1, 2, 4, 5, 6] rfl rfl (by decide) (by decide) rfl (by decide) (fun H locs hP hD hS => ?_)
        obtain ⟨w27, w28, e29, hm⟩ := bnd2_some hm
        refine g_callv (w2 := (wd_88cc5a k n_t n_text n_readPage n_page n_trial n_book n_kept n_isKept n_seenStation n_seenOther n_seenWide n_seenWas n_sines n_at n_column n_gram n_right n_work (0 : Int32) v_textSize v_place v_stations v_readStations v_doings v_seen v_seed w16 w27 w28 r_page r_sines w17 w18 w19 w25)) (va_runV (As := [.long r21, .long r24]) (rest := []) ⟨hx, hb, hml, hown, hts⟩ (m_X6_layFraction l dC dI k F H.size n_t n_text n_readPage n_page n_trial n_book n_kept n_isKept n_seenStation n_seenOther n_seenWide n_seenWas n_sines n_at n_column n_gram n_right n_work (0 : Int32) v_textSize v_place v_stations v_readStations v_doings v_seen v_seed w16 v_up v_low r21 r24 e29) (cwV 2 hts gX6_evened_X6_layFraction rfl rfl rfl (by decide +kernel) ⟨Nat.le_of_ble_eq_true rfl, Nat.le_of_ble_eq_true rfl⟩) (g_preV hG hP hD hS hA [0] rfl (by decide) (ci := 6) (q0 := 0) rfl rfl) rfl rfl hl.1 rfl (lv_room (Nat.le_of_ble_eq_true rfl)) dX6_evened_93 ⟨Nat.le_of_ble_eq_true rfl, Nat.le_of_ble_eq_true rfl⟩) hP hD hS hA [0] [1, 2, 3, 4, 5, 6] [6, 0, 1, 2, 3, 4, 5] rfl rfl (by decide) (by decide) rfl (by decide) (fun H locs hP hD hS => ?_)
        refine lv_aload_n hx hb dX6_evened_96 rfl (lv_at hl 1 rfl) ?_
        refine lv_iload_n hx hb dX6_evened_97 rfl (lv_at hl 4 rfl) ?_
        obtain ⟨r30, e31, hm⟩ := bnd1_some hm
        refine g_calll (w2 := (wd_88cc5a k n_t n_text n_readPage n_page n_trial n_book n_kept n_isKept n_seenStation n_seenOther n_seenWide n_seenWas n_sines n_at n_column n_gram n_right n_work (0 : Int32) v_textSize v_place v_stations v_readStations v_doings v_seen v_seed w16 w27 w28 r_page r_sines w17 w18 w19 w25)) (va_runV (As := [.int x3]) (rest := []) ⟨hx, hb, hml, hown, hts⟩ (m_X6_told l dC dI k H.size n_t n_text n_readPage n_page n_trial n_book n_kept n_isKept n_seenStation n_seenOther n_seenWide n_seenWas n_sines n_at n_column n_gram n_right n_work (0 : Int32) v_textSize v_place v_stations v_readStations v_doings v_seen v_seed w16 w27 w28 x3 e31) (cwV 1 hts gX6_evened_X6_told rfl rfl rfl (by decide +kernel) ⟨Nat.le_of_ble_eq_true rfl, Nat.le_of_ble_eq_true rfl⟩) (g_preV hG hP hD hS hA [0] rfl (by decide) (ci := 6) (q0 := 0) rfl rfl) rfl rfl hl.1 rfl (lv_room (Nat.le_of_ble_eq_true rfl)) dX6_evened_98 ⟨Nat.le_of_ble_eq_true rfl, Nat.le_of_ble_eq_true rfl⟩) hP hD hS hA [0] [1, 2, 3, 4, 5, 6] [6, 0, 1, 2, 3, 4, 5] rfl rfl (by decide) (by decide) rfl (by decide) (fun H locs hP hD hS => ?_)
        exact RET _ _ _ _ _ _ _ _ _ _ _ _ _ dX6_evened_101 hm hP hD hS
      · replace hm := ifp c13 hm
        refine lv_ldc2 (v := (-3 : Int64)) hx hb hown k3 dX6_evened_59 ?_
        exact RET _ _ _ _ _ _ _ _ _ _ _ _ _ dX6_evened_62 hm hP hD hS
    · replace hm := ifp c6 hm
      refine lv_ldc2 (v := (-2 : Int64)) hx hb hown k4 dX6_evened_29 ?_
      exact RET _ _ _ _ _ _ _ _ _ _ _ _ _ dX6_evened_32 hm hP hD hS
  · replace hm := ifn c3 hm
    refine lv_ldc2 (v := (-1 : Int64)) hx hb hown k5 dX6_evened_13 ?_
    exact RET _ _ _ _ _ _ _ _ _ _ _ _ _ dX6_evened_16 hm hP hD hS
set_option maxRecDepth 100000 in
theorem m_X6_evened (l : Launch) (dC : Nat → ClassId) (dI : Nat → Nat → Nat) (k : Nat → ClassId) (F : Nat) (sz : Nat) (n_t n_text n_readPage n_page n_trial n_book n_kept n_isKept n_seenStation n_seenOther n_seenWide n_seenWas n_sines n_at n_column n_gram n_right n_work : Nat) (v_thrown : Int32) (v_textSize : Int32) (v_place : Int32) (v_stations : Int32) (v_readStations : Int32) (v_doings : Int32) (v_seen : Int32) (v_seed : Int64) (v_wide : Int32) (v_up : Int64) (v_low : Int64) (r_page : Nat → Int32) (r_sines : Nat → Int32) (r_column : Nat → Int32) (r_gram : Nat → Int64) (r_right : Nat → Int64) (r_work : Nat → Int64) (x1 : Int32) (x2 : Int32) (x3 : Int32) {o_r : Int64} {o_v_thrown : (Int32)} {o_v_wide : (Int32)} {o_v_up : (Int64)} {o_v_low : (Int64)} {o_r_column : (Nat → Int32)} {o_r_gram : (Nat → Int64)} {o_r_right : (Nat → Int64)} {o_r_work : (Nat → Int64)} (hm : f_X6_evened F x1 x2 x3 v_thrown v_stations v_wide v_up v_low r_page r_sines r_column r_gram r_right r_work = some (o_r, o_v_thrown, o_v_wide, o_v_up, o_v_low, o_r_column, o_r_gram, o_r_right, o_r_work)) : Met l yX6_evened wsX6_evened rm_X6_evened (gPre dC dI k [.ref n_t, .int x1, .int x2, .int x3] sz (wd_88cc5a k n_t n_text n_readPage n_page n_trial n_book n_kept n_isKept n_seenStation n_seenOther n_seenWide n_seenWas n_sines n_at n_column n_gram n_right n_work v_thrown v_textSize v_place v_stations v_readStations v_doings v_seen v_seed v_wide v_up v_low r_page r_sines r_column r_gram r_right r_work)) (gQL dC dI (va_A (wd_88cc5a k n_t n_text n_readPage n_page n_trial n_book n_kept n_isKept n_seenStation n_seenOther n_seenWide n_seenWas n_sines n_at n_column n_gram n_right n_work v_thrown v_textSize v_place v_stations v_readStations v_doings v_seen v_seed v_wide v_up v_low r_page r_sines r_column r_gram r_right r_work) sz) o_r (wd_88cc5a k n_t n_text n_readPage n_page n_trial n_book n_kept n_isKept n_seenStation n_seenOther n_seenWide n_seenWas n_sines n_at n_column n_gram n_right n_work o_v_thrown v_textSize v_place v_stations v_readStations v_doings v_seen v_seed o_v_wide o_v_up o_v_low r_page r_sines o_r_column o_r_gram o_r_right o_r_work)) 0 0 (va_A (wd_88cc5a k n_t n_text n_readPage n_page n_trial n_book n_kept n_isKept n_seenStation n_seenOther n_seenWide n_seenWas n_sines n_at n_column n_gram n_right n_work v_thrown v_textSize v_place v_stations v_readStations v_doings v_seen v_seed v_wide v_up v_low r_page r_sines r_column r_gram r_right r_work) sz) := by
  refine g_entry (cc := cX6_evened) (maxL := 5) (ret := (some .long)) (lv := [(0, .ref n_t), (1, .int x1), (2, .int x2), (3, .int x3)]) (by decide +kernel) rfl (Nat.le_of_ble_eq_true rfl) rfl (fun p e s m below meth c ls hx hb hr hml hts hown hlk hnm hsz hG hA hP hD hS hl => ?_)
  exact k_X6_evened hx hb hml hts hown hG hA F n_t n_text n_readPage n_page n_trial n_book n_kept n_isKept n_seenStation n_seenOther n_seenWide n_seenWas n_sines n_at n_column n_gram n_right n_work v_thrown v_textSize v_place v_stations v_readStations v_doings v_seen v_seed v_wide v_up v_low r_page r_sines r_column r_gram r_right r_work x1 x2 x3 o_r o_v_thrown o_v_wide o_v_up o_v_low o_r_column o_r_gram o_r_right o_r_work (fun pc H locs ls v q_v_thrown q_v_wide q_v_up q_v_low q_r_column q_r_gram q_r_right q_r_work hd ho hP hD hS => by cases ho; exact g_lret hx hb hr hlk hP hD hS hd) s.heap [] ls hl hP hD hS hm
end
section
set_option maxHeartbeats 4000000 in
set_option maxRecDepth 100000 in
theorem k_X6_rest {p : Program} {l : Launch} {e : Env} {s : State} {m : MethodId} {args : Array Value} {below : List Frame} {meth : Method} {c : Code} {A : Nat → Prop} {Q : State → Prop} {dC : Nat → ClassId} {dI : Nat → Nat → Nat} {k : Nat → ClassId} (hx : p.tables.exec = Jvm.exec) (hb : c.code = cX6_rest) (hml : c.maxLocals = 7) (hts : ∀ w ∈ wsX6_rest, w.before args s = true) (hown : s.vm.findClass RX6 = some m.cls) (hG : gK dC dI k A s) (hA : ∀ q : Nat, s.heap.size ≤ q → A q) (F : Nat) (n_t n_text n_readPage n_page n_trial n_book n_kept n_isKept n_seenStation n_seenOther n_seenWide n_seenWas n_sines n_at n_column n_gram n_right n_work : Nat) (v_thrown : Int32) (v_textSize : Int32) (v_place : Int32) (v_stations : Int32) (v_readStations : Int32) (v_doings : Int32) (v_seen : Int32) (v_seed : Int64) (v_wide : Int32) (v_up : Int64) (v_low : Int64) (r_page : Nat → Int32) (r_sines : Nat → Int32) (r_column : Nat → Int32) (r_gram : Nat → Int64) (r_right : Nat → Int64) (r_work : Nat → Int64) (x1 : Int32) (x2 : Int32) (x3 : Int32) (o_r : Int64) (o_v_thrown : (Int32)) (o_v_wide : (Int32)) (o_v_up : (Int64)) (o_v_low : (Int64)) (o_r_column : (Nat → Int32)) (o_r_gram : (Nat → Int64)) (o_r_right : (Nat → Int64)) (o_r_work : (Nat → Int64)) (RET : ∀ (pc : Nat) (H : Heap) (locs : List Loc) (ls : Array Slot) (v : Int64) (q_v_thrown : Int32) (q_v_wide : Int32) (q_v_up : Int64) (q_v_low : Int64) (q_r_column : Nat → Int32) (q_r_gram : Nat → Int64) (q_r_right : Nat → Int64) (q_r_work : Nat → Int64), decode cX6_rest pc = .ok (.lreturn, 1) → some (v, q_v_thrown, q_v_wide, q_v_up, q_v_low, q_r_column, q_r_gram, q_r_right, q_r_work) = some (o_r, o_v_thrown, o_v_wide, o_v_up, o_v_low, o_r_column, o_r_gram, o_r_right, o_r_work) → va_P (dC, dI) vwCl (wd_88cc5a k n_t n_text n_readPage n_page n_trial n_book n_kept n_isKept n_seenStation n_seenOther n_seenWide n_seenWas n_sines n_at n_column n_gram n_right n_work q_v_thrown v_textSize v_place v_stations v_readStations v_doings v_seen v_seed q_v_wide q_v_up q_v_low r_page r_sines q_r_column q_r_gram q_r_right q_r_work) H → va_D A (wd_88cc5a k n_t n_text n_readPage n_page n_trial n_book n_kept n_isKept n_seenStation n_seenOther n_seenWide n_seenWas n_sines n_at n_column n_gram n_right n_work q_v_thrown v_textSize v_place v_stations v_readStations v_doings v_seen v_seed q_v_wide q_v_up q_v_low r_page r_sines q_r_column q_r_gram q_r_right q_r_work) → va_S A s.heap H locs → W p l e rm_X6_rest s m args below meth c H locs 0 0 Q (F0 m pc ls [.long v])) (H : Heap) (locs : List Loc) (ls : Array Slot) (hl : lv_has ls 7 [(0, .ref n_t), (1, .int x1), (2, .int x2), (3, .int x3)]) (hP : va_P (dC, dI) vwCl (wd_88cc5a k n_t n_text n_readPage n_page n_trial n_book n_kept n_isKept n_seenStation n_seenOther n_seenWide n_seenWas n_sines n_at n_column n_gram n_right n_work v_thrown v_textSize v_place v_stations v_readStations v_doings v_seen v_seed v_wide v_up v_low r_page r_sines r_column r_gram r_right r_work) H) (hD : va_D A (wd_88cc5a k n_t n_text n_readPage n_page n_trial n_book n_kept n_isKept n_seenStation n_seenOther n_seenWide n_seenWas n_sines n_at n_column n_gram n_right n_work v_thrown v_textSize v_place v_stations v_readStations v_doings v_seen v_seed v_wide v_up v_low r_page r_sines r_column r_gram r_right r_work)) (hS : va_S A s.heap H locs) (hm : f_X6_rest F x1 x2 x3 v_thrown v_wide v_up v_low r_page r_sines r_column r_gram r_right r_work = some (o_r, o_v_thrown, o_v_wide, o_v_up, o_v_low, o_r_column, o_r_gram, o_r_right, o_r_work)) : W p l e rm_X6_rest s m args below meth c H locs 0 0 Q (F0 m 0 ls []) := by
  have hinX6 : ∀ w ∈ u_ws RX6 TX6 28, w ∈ wsX6_rest := by decide +kernel
  have k0 := hts (.fieldLink RX6 67 "CaveLegsModel" "thrown" "I") (by decide +kernel)
  have k1 := hts (.constantLong RX6 166 (2)) (by decide +kernel)
  have k2 := hts (.fieldLink RX6 20 "CaveLegsModel" "page" "[I") (by decide +kernel)
  have k3 := hts (.constantLong RX6 201 (-3)) (by decide +kernel)
  have k4 := hts (.constantLong RX6 199 (-2)) (by decide +kernel)
  have k5 := hts (.constantLong RX6 197 (-1)) (by decide +kernel)
  unfold f_X6_rest at hm
  refine lv_aload_n hx hb dX6_rest_0 rfl (lv_at hl 0 rfl) ?_
  refine lv_iconst (v := (0 : Int32)) hx hb dX6_rest_1 (by decide) ?_
  refine va_put (D := (dC, dI)) (ci := 6) (v := .int (0 : Int32)) (ty := .int) (C := RX6) (T := TX6) (N := 28) hx hb hts hinX6 tyX6 tyX6_ok nmX6 hown hG.1 hP hD hS 0 rfl rfl 0 (by decide) k0 (fun _ h9 => h9) rfl (by decide +kernel) rfl rfl (Nat.le_of_ble_eq_true rfl) dX6_rest_2 (fun H locs hP hD hS => ?_)
  replace hP : va_P (dC, dI) vwCl (wd_88cc5a k n_t n_text n_readPage n_page n_trial n_book n_kept n_isKept n_seenStation n_seenOther n_seenWide n_seenWas n_sines n_at n_column n_gram n_right n_work (0 : Int32) v_textSize v_place v_stations v_readStations v_doings v_seen v_seed v_wide v_up v_low r_page r_sines r_column r_gram r_right r_work) H := hP
  replace hD : va_D A (wd_88cc5a k n_t n_text n_readPage n_page n_trial n_book n_kept n_isKept n_seenStation n_seenOther n_seenWide n_seenWas n_sines n_at n_column n_gram n_right n_work (0 : Int32) v_textSize v_place v_stations v_readStations v_doings v_seen v_seed v_wide v_up v_low r_page r_sines r_column r_gram r_right r_work) := hD
  refine lv_aload_n hx hb dX6_rest_5 rfl (lv_at hl 0 rfl) ?_
  refine lv_iload_n hx hb dX6_rest_6 rfl (lv_at hl 1 rfl) ?_
  obtain ⟨r1, e2, hm⟩ := bnd1_some hm
  refine g_calli (w2 := (wd_88cc5a k n_t n_text n_readPage n_page n_trial n_book n_kept n_isKept n_seenStation n_seenOther n_seenWide n_seenWas n_sines n_at n_column n_gram n_right n_work (0 : Int32) v_textSize v_place v_stations v_readStations v_doings v_seen v_seed v_wide v_up v_low r_page r_sines r_column r_gram r_right r_work)) (va_runV (As := [.int x1]) (rest := []) ⟨hx, hb, hml, hown, hts⟩ (m_X6_noLeg l dC dI k H.size n_t n_text n_readPage n_page n_trial n_book n_kept n_isKept n_seenStation n_seenOther n_seenWide n_seenWas n_sines n_at n_column n_gram n_right n_work (0 : Int32) v_textSize v_place v_stations v_readStations v_doings v_seen v_seed v_wide v_up v_low r_page x1 e2) (cwV 1 hts gX6_rest_X6_noLeg rfl rfl rfl (by decide +kernel) ⟨Nat.le_of_ble_eq_true rfl, Nat.le_of_ble_eq_true rfl⟩) (g_preV hG hP hD hS hA [0, 1] rfl (by decide) (ci := 6) (q0 := 0) rfl rfl) rfl rfl hl.1 rfl (lv_room (Nat.le_of_ble_eq_true rfl)) dX6_rest_7 ⟨Nat.le_of_ble_eq_true rfl, Nat.le_of_ble_eq_true rfl⟩) hP hD hS hA [0, 1] [2, 3, 4, 5, 6] [5, 6, 0, 1, 2, 3, 4] rfl rfl (by decide) (by decide) rfl (by decide) (fun H locs hP hD hS => ?_)
  refine lv_if_eq (tgt := 17) hx hb dX6_rest_10 (by decide) (fun c3 => ?_) (fun c3 => ?_)
  · replace hm := ifp c3 hm
    refine lv_iload_n hx hb dX6_rest_17 rfl (lv_at hl 2 rfl) ?_
    refine g_i2l hx hb dX6_rest_18 ?_
    refine lv_lconst (v := (0 : Int64)) hx hb dX6_rest_19 (by decide) ?_
    refine lv_ldc2 (v := (2 : Int64)) hx hb hown k1 dX6_rest_20 ?_
    obtain ⟨r4, e5, hm⟩ := bnd1_some hm
    refine g_calli (w2 := (wd_88cc5a k n_t n_text n_readPage n_page n_trial n_book n_kept n_isKept n_seenStation n_seenOther n_seenWide n_seenWas n_sines n_at n_column n_gram n_right n_work (0 : Int32) v_textSize v_place v_stations v_readStations v_doings v_seen v_seed v_wide v_up v_low r_page r_sines r_column r_gram r_right r_work)) (va_runS (As := [.long (Int32.toInt64 x2), .long (0 : Int64), .long (2 : Int64)]) (rest := []) ⟨hx, hb, hml, hown, hts⟩ (m_X6_in l dC dI k H.size  (Int32.toInt64 x2) (0 : Int64) (2 : Int64) e5) (va_cwS 3 hts gX6_rest_X6_in rfl rfl rfl (by decide +kernel) ⟨Nat.le_of_ble_eq_true rfl, Nat.le_of_ble_eq_true rfl⟩) (g_preS hG hP hD hS hA [] rfl (by decide)) rfl rfl hl.1 rfl (lv_room (Nat.le_of_ble_eq_true rfl)) dX6_rest_23 ⟨Nat.le_of_ble_eq_true rfl, Nat.le_of_ble_eq_true rfl⟩) hP hD hS hA [] [0, 1, 2, 3, 4, 5, 6] [0, 1, 2, 3, 4, 5, 6] rfl rfl (by decide) (by decide) rfl (by decide) (fun H locs hP hD hS => ?_)
    refine lv_if_ne (tgt := 33) hx hb dX6_rest_26 (by decide) (fun c6 => ?_) (fun c6 => ?_)
    · replace hm := ifn c6 hm
      refine lv_aload_n hx hb dX6_rest_33 rfl (lv_at hl 0 rfl) ?_
      refine lv_aload_n hx hb dX6_rest_34 rfl (lv_at hl 0 rfl) ?_
      refine va_get (D := (dC, dI)) (ci := 6) (v := .ref n_page) (C := RX6) (T := TX6) (N := 28) hx hb hts hinX6 hown hG.1 hP 0 rfl rfl 7 (by decide) k2 (fun _ h9 => h9) rfl dX6_rest_35 ?_
      refine lv_aload_n hx hb dX6_rest_38 rfl (lv_at hl 0 rfl) ?_
      refine va_get (D := (dC, dI)) (ci := 6) (v := .ref n_page) (C := RX6) (T := TX6) (N := 28) hx hb hts hinX6 hown hG.1 hP 0 rfl rfl 7 (by decide) k2 (fun _ h9 => h9) rfl dX6_rest_39 ?_
      obtain ⟨r7, e8, hm⟩ := bnd1_some hm
      refine g_calli (w2 := (wd_88cc5a k n_t n_text n_readPage n_page n_trial n_book n_kept n_isKept n_seenStation n_seenOther n_seenWide n_seenWas n_sines n_at n_column n_gram n_right n_work (0 : Int32) v_textSize v_place v_stations v_readStations v_doings v_seen v_seed v_wide v_up v_low r_page r_sines r_column r_gram r_right r_work)) (va_runS (As := [.ref n_page]) (rest := [.ref n_page, .ref n_t]) ⟨hx, hb, hml, hown, hts⟩ (m_X6_all l dC dI k H.size n_page r_page  e8) (va_cwS 1 hts gX6_rest_X6_all rfl rfl rfl (by decide +kernel) ⟨Nat.le_of_ble_eq_true rfl, Nat.le_of_ble_eq_true rfl⟩) (g_preS hG hP hD hS hA [1] rfl (by decide)) rfl rfl hl.1 rfl (lv_room (Nat.le_of_ble_eq_true rfl)) dX6_rest_42 ⟨Nat.le_of_ble_eq_true rfl, Nat.le_of_ble_eq_true rfl⟩) hP hD hS hA [1] [0, 2, 3, 4, 5, 6] [0, 6, 1, 2, 3, 4, 5] rfl rfl (by decide) (by decide) rfl (by decide) (fun H locs hP hD hS => ?_)
      obtain ⟨r9, e10, hm⟩ := bnd1_some hm
      refine g_calli (w2 := (wd_88cc5a k n_t n_text n_readPage n_page n_trial n_book n_kept n_isKept n_seenStation n_seenOther n_seenWide n_seenWas n_sines n_at n_column n_gram n_right n_work (0 : Int32) v_textSize v_place v_stations v_readStations v_doings v_seen v_seed v_wide v_up v_low r_page r_sines r_column r_gram r_right r_work)) (va_runV (As := [.ref n_page, .int r7]) (rest := []) ⟨hx, hb, hml, hown, hts⟩ (m_X6_tiedBy l dC dI k F H.size n_t n_page n_text n_readPage n_page n_trial n_book n_kept n_isKept n_seenStation n_seenOther n_seenWide n_seenWas n_sines n_at n_column n_gram n_right n_work (0 : Int32) v_textSize v_place v_stations v_readStations v_doings v_seen v_seed v_wide v_up v_low r_page r7 e10) (cwV 2 hts gX6_rest_X6_tiedBy rfl rfl rfl (by decide +kernel) ⟨Nat.le_of_ble_eq_true rfl, Nat.le_of_ble_eq_true rfl⟩) (g_preV hG hP hD hS hA [0, 1] rfl (by decide) (ci := 6) (q0 := 0) rfl rfl) rfl rfl hl.1 rfl (lv_room (Nat.le_of_ble_eq_true rfl)) dX6_rest_45 ⟨Nat.le_of_ble_eq_true rfl, Nat.le_of_ble_eq_true rfl⟩) hP hD hS hA [0, 1] [2, 3, 4, 5, 6] [5, 6, 0, 1, 2, 3, 4] rfl rfl (by decide) (by decide) rfl (by decide) (fun H locs hP hD hS => ?_)
      refine lv_istore (lv' := [(4, .int r9), (0, .ref n_t), (1, .int x1), (2, .int x2), (3, .int x3)]) hx hb dX6_rest_48 hl (by decide) rfl (fun ls hl => ?_)
      refine lv_aload_n hx hb dX6_rest_50 rfl (lv_at hl 1 rfl) ?_
      refine lv_aload_n hx hb dX6_rest_51 rfl (lv_at hl 1 rfl) ?_
      refine va_get (D := (dC, dI)) (ci := 6) (v := .ref n_page) (C := RX6) (T := TX6) (N := 28) hx hb hts hinX6 hown hG.1 hP 0 rfl rfl 7 (by decide) k2 (fun _ h9 => h9) rfl dX6_rest_52 ?_
      refine lv_iload_n hx hb dX6_rest_55 rfl (lv_at hl 2 rfl) ?_
      refine lv_iload hx hb dX6_rest_56 (lv_at hl 0 rfl) ?_
      obtain ⟨r11, e12, hm⟩ := bnd1_some hm
      refine g_calli (w2 := (wd_88cc5a k n_t n_text n_readPage n_page n_trial n_book n_kept n_isKept n_seenStation n_seenOther n_seenWide n_seenWas n_sines n_at n_column n_gram n_right n_work (0 : Int32) v_textSize v_place v_stations v_readStations v_doings v_seen v_seed v_wide v_up v_low r_page r_sines r_column r_gram r_right r_work)) (va_runV (As := [.ref n_page, .int x1, .int r9]) (rest := []) ⟨hx, hb, hml, hown, hts⟩ (m_X6_isTiedLeg l dC dI k H.size n_t n_page n_text n_readPage n_page n_trial n_book n_kept n_isKept n_seenStation n_seenOther n_seenWide n_seenWas n_sines n_at n_column n_gram n_right n_work (0 : Int32) v_textSize v_place v_stations v_readStations v_doings v_seen v_seed v_wide v_up v_low r_page x1 r9 e12) (cwV 3 hts gX6_rest_X6_isTiedLeg rfl rfl rfl (by decide +kernel) ⟨Nat.le_of_ble_eq_true rfl, Nat.le_of_ble_eq_true rfl⟩) (g_preV hG hP hD hS hA [0, 1] rfl (by decide) (ci := 6) (q0 := 0) rfl rfl) rfl rfl hl.1 rfl (lv_room (Nat.le_of_ble_eq_true rfl)) dX6_rest_58 ⟨Nat.le_of_ble_eq_true rfl, Nat.le_of_ble_eq_true rfl⟩) hP hD hS hA [0, 1] [2, 3, 4, 5, 6] [5, 6, 0, 1, 2, 3, 4] rfl rfl (by decide) (by decide) rfl (by decide) (fun H locs hP hD hS => ?_)
      refine lv_if_ne (tgt := 68) hx hb dX6_rest_61 (by decide) (fun c13 => ?_) (fun c13 => ?_)
      · replace hm := ifn c13 hm
        refine lv_aload_n hx hb dX6_rest_68 rfl (lv_at hl 1 rfl) ?_
        refine lv_aload_n hx hb dX6_rest_69 rfl (lv_at hl 1 rfl) ?_
        refine va_get (D := (dC, dI)) (ci := 6) (v := .ref n_page) (C := RX6) (T := TX6) (N := 28) hx hb hts hinX6 hown hG.1 hP 0 rfl rfl 7 (by decide) k2 (fun _ h9 => h9) rfl dX6_rest_70 ?_
        refine lv_aload_n hx hb dX6_rest_73 rfl (lv_at hl 1 rfl) ?_
        refine va_get (D := (dC, dI)) (ci := 6) (v := .ref n_page) (C := RX6) (T := TX6) (N := 28) hx hb hts hinX6 hown hG.1 hP 0 rfl rfl 7 (by decide) k2 (fun _ h9 => h9) rfl dX6_rest_74 ?_
        obtain ⟨r14, e15, hm⟩ := bnd1_some hm
        refine g_calli (w2 := (wd_88cc5a k n_t n_text n_readPage n_page n_trial n_book n_kept n_isKept n_seenStation n_seenOther n_seenWide n_seenWas n_sines n_at n_column n_gram n_right n_work (0 : Int32) v_textSize v_place v_stations v_readStations v_doings v_seen v_seed v_wide v_up v_low r_page r_sines r_column r_gram r_right r_work)) (va_runS (As := [.ref n_page]) (rest := [.ref n_page, .ref n_t]) ⟨hx, hb, hml, hown, hts⟩ (m_X6_all l dC dI k H.size n_page r_page  e15) (va_cwS 1 hts gX6_rest_X6_all rfl rfl rfl (by decide +kernel) ⟨Nat.le_of_ble_eq_true rfl, Nat.le_of_ble_eq_true rfl⟩) (g_preS hG hP hD hS hA [1] rfl (by decide)) rfl rfl hl.1 rfl (lv_room (Nat.le_of_ble_eq_true rfl)) dX6_rest_77 ⟨Nat.le_of_ble_eq_true rfl, Nat.le_of_ble_eq_true rfl⟩) hP hD hS hA [1] [0, 2, 3, 4, 5, 6] [0, 6, 1, 2, 3, 4, 5] rfl rfl (by decide) (by decide) rfl (by decide) (fun H locs hP hD hS => ?_)
        refine lv_iload hx hb dX6_rest_80 (lv_at hl 0 rfl) ?_
        refine lv_iload_n hx hb dX6_rest_82 rfl (lv_at hl 3 rfl) ?_
        obtain ⟨w16, w17, w18, w19, e20, hm⟩ := bnd4_some hm
        refine g_callv (w2 := (wd_88cc5a k n_t n_text n_readPage n_page n_trial n_book n_kept n_isKept n_seenStation n_seenOther n_seenWide n_seenWas n_sines n_at n_column n_gram n_right n_work (0 : Int32) v_textSize v_place v_stations v_readStations v_doings v_seen v_seed w16 v_up v_low r_page r_sines w17 w18 w19 r_work)) (va_runV (As := [.ref n_page, .int r14, .int r9, .int x2]) (rest := []) ⟨hx, hb, hml, hown, hts⟩ (m_X6_layGram l dC dI k F H.size n_t n_page n_text n_readPage n_page n_trial n_book n_kept n_isKept n_seenStation n_seenOther n_seenWide n_seenWas n_sines n_at n_column n_gram n_right n_work (0 : Int32) v_textSize v_place v_stations v_readStations v_doings v_seen v_seed v_wide v_up v_low r_sines r_column r_gram r_right r_page r14 r9 x2 e20) (cwV 4 hts gX6_rest_X6_layGram rfl rfl rfl (by decide +kernel) ⟨Nat.le_of_ble_eq_true rfl, Nat.le_of_ble_eq_true rfl⟩) (g_preV hG hP hD hS hA [0, 2, 3, 4, 5, 1] rfl (by decide) (ci := 6) (q0 := 0) rfl rfl) rfl rfl hl.1 rfl (lv_room (Nat.le_of_ble_eq_true rfl)) dX6_rest_83 ⟨Nat.le_of_ble_eq_true rfl, Nat.le_of_ble_eq_true rfl⟩) hP hD hS hA [0, 2, 3, 4, 5, 1] [6] [1, 6, 2, 3, 4, 5, 0] rfl rfl (by decide) (by decide) rfl (by decide) (fun H locs hP hD hS => ?_)
        refine lv_aload_n hx hb dX6_rest_86 rfl (lv_at hl 1 rfl) ?_
        refine lv_bipush (v := (-9 : Int32)) hx hb dX6_rest_87 (by decide) ?_
        obtain ⟨r21, w22, e23, hm⟩ := bnd2_some hm
        refine g_calll (w2 := (wd_88cc5a k n_t n_text n_readPage n_page n_trial n_book n_kept n_isKept n_seenStation n_seenOther n_seenWide n_seenWas n_sines n_at n_column n_gram n_right n_work (0 : Int32) v_textSize v_place v_stations v_readStations v_doings v_seen v_seed w16 v_up v_low r_page r_sines w17 w18 w19 w22)) (va_runV (As := [.int (-9 : Int32)]) (rest := []) ⟨hx, hb, hml, hown, hts⟩ (m_X6_determinant l dC dI k F H.size n_t n_text n_readPage n_page n_trial n_book n_kept n_isKept n_seenStation n_seenOther n_seenWide n_seenWas n_sines n_at n_column n_gram n_right n_work (0 : Int32) v_textSize v_place v_stations v_readStations v_doings v_seen v_seed w16 v_up v_low w18 w19 r_work (-9 : Int32) e23) (cwV 1 hts gX6_rest_X6_determinant rfl rfl rfl (by decide +kernel) ⟨Nat.le_of_ble_eq_true rfl, Nat.le_of_ble_eq_true rfl⟩) (g_preV hG hP hD hS hA [0, 4, 5, 6] rfl (by decide) (ci := 6) (q0 := 0) rfl rfl) rfl rfl hl.1 rfl (lv_room (Nat.le_of_ble_eq_true rfl)) dX6_rest_89 ⟨Nat.le_of_ble_eq_true rfl, Nat.le_of_ble_eq_true rfl⟩) hP hD hS hA [0, 4, 5, 6] [1, 2, 3] [3, 0, 1, 2, 4, 5, 6] rfl rfl (by decide) (by decide) rfl (by decide) (fun H locs hP hD hS => ?_)
        refine lv_lstore (lv' := [(5, .long r21), (4, .int r9), (0, .ref n_t), (1, .int x1), (2, .int x2), (3, .int x3)]) hx hb dX6_rest_92 hl (by decide) rfl (fun ls hl => ?_)
        refine lv_aload_n hx hb dX6_rest_94 rfl (lv_at hl 2 rfl) ?_
        refine lv_lload hx hb dX6_rest_95 (lv_at hl 0 rfl) ?_
        refine lv_aload_n hx hb dX6_rest_97 rfl (lv_at hl 2 rfl) ?_
        refine lv_aload_n hx hb dX6_rest_98 rfl (lv_at hl 2 rfl) ?_
        refine va_get (D := (dC, dI)) (ci := 6) (v := .ref n_page) (C := RX6) (T := TX6) (N := 28) hx hb hts hinX6 hown hG.1 hP 0 rfl rfl 7 (by decide) k2 (fun _ h9 => h9) rfl dX6_rest_99 ?_
        refine lv_iload_n hx hb dX6_rest_102 rfl (lv_at hl 3 rfl) ?_
        refine lv_iload_n hx hb dX6_rest_103 rfl (lv_at hl 4 rfl) ?_
        obtain ⟨r24, e25, hm⟩ := bnd1_some hm
        refine g_calli (w2 := (wd_88cc5a k n_t n_text n_readPage n_page n_trial n_book n_kept n_isKept n_seenStation n_seenOther n_seenWide n_seenWas n_sines n_at n_column n_gram n_right n_work (0 : Int32) v_textSize v_place v_stations v_readStations v_doings v_seen v_seed w16 v_up v_low r_page r_sines w17 w18 w19 w22)) (va_runV (As := [.ref n_page, .int x1, .int x2]) (rest := [.long r21, .ref n_t]) ⟨hx, hb, hml, hown, hts⟩ (m_X6_stepOf l dC dI k H.size n_t n_page n_text n_readPage n_page n_trial n_book n_kept n_isKept n_seenStation n_seenOther n_seenWide n_seenWas n_sines n_at n_column n_gram n_right n_work (0 : Int32) v_textSize v_place v_stations v_readStations v_doings v_seen v_seed w16 v_up v_low r_sines r_page x1 x2 e25) (cwV 3 hts gX6_rest_X6_stepOf rfl rfl rfl (by decide +kernel) ⟨Nat.le_of_ble_eq_true rfl, Nat.le_of_ble_eq_true rfl⟩) (g_preV hG hP hD hS hA [0, 2, 1] rfl (by decide) (ci := 6) (q0 := 0) rfl rfl) rfl rfl hl.1 rfl (lv_room (Nat.le_of_ble_eq_true rfl)) dX6_rest_104 ⟨Nat.le_of_ble_eq_true rfl, Nat.le_of_ble_eq_true rfl⟩) hP hD hS hA [0, 2, 1] [3, 4, 5, 6] [4, 6, 5, 0, 1, 2, 3] rfl rfl (by decide) (by decide) rfl (by decide) (fun H locs hP hD hS => ?_)
        refine g_i2l hx hb dX6_rest_107 ?_
        refine lv_lmul hx hb dX6_rest_108 ?_
        refine lv_aload_n hx hb dX6_rest_109 rfl (lv_at hl 2 rfl) ?_
        refine lv_aload_n hx hb dX6_rest_110 rfl (lv_at hl 2 rfl) ?_
        refine va_get (D := (dC, dI)) (ci := 6) (v := .ref n_page) (C := RX6) (T := TX6) (N := 28) hx hb hts hinX6 hown hG.1 hP 0 rfl rfl 7 (by decide) k2 (fun _ h9 => h9) rfl dX6_rest_111 ?_
        refine lv_iload_n hx hb dX6_rest_114 rfl (lv_at hl 3 rfl) ?_
        refine lv_iconst (v := (5 : Int32)) hx hb dX6_rest_115 (by decide) ?_
        obtain ⟨r26, e27, hm⟩ := bnd1_some hm
        refine g_calli (w2 := (wd_88cc5a k n_t n_text n_readPage n_page n_trial n_book n_kept n_isKept n_seenStation n_seenOther n_seenWide n_seenWas n_sines n_at n_column n_gram n_right n_work (0 : Int32) v_textSize v_place v_stations v_readStations v_doings v_seen v_seed w16 v_up v_low r_page r_sines w17 w18 w19 w22)) (va_runS (As := [.ref n_page, .int x1, .int (5 : Int32)]) (rest := [.ref n_t, .long (r21 * (Int32.toInt64 r24)), .ref n_t]) ⟨hx, hb, hml, hown, hts⟩ (m_X6_of l dC dI k H.size n_page r_page x1 (5 : Int32) e27) (va_cwS 3 hts gX6_rest_X6_of rfl rfl rfl (by decide +kernel) ⟨Nat.le_of_ble_eq_true rfl, Nat.le_of_ble_eq_true rfl⟩) (g_preS hG hP hD hS hA [1] rfl (by decide)) rfl rfl hl.1 rfl (lv_room (Nat.le_of_ble_eq_true rfl)) dX6_rest_116 ⟨Nat.le_of_ble_eq_true rfl, Nat.le_of_ble_eq_true rfl⟩) hP hD hS hA [1] [0, 2, 3, 4, 5, 6] [0, 6, 1, 2, 3, 4, 5] rfl rfl (by decide) (by decide) rfl (by decide) (fun H locs hP hD hS => ?_)
        obtain ⟨r28, w29, e30, hm⟩ := bnd2_some hm
        refine g_calll (w2 := (wd_88cc5a k n_t n_text n_readPage n_page n_trial n_book n_kept n_isKept n_seenStation n_seenOther n_seenWide n_seenWas n_sines n_at n_column n_gram n_right n_work (0 : Int32) v_textSize v_place v_stations v_readStations v_doings v_seen v_seed w16 v_up v_low r_page r_sines w17 w18 w19 w29)) (va_runV (As := [.int r26]) (rest := [.long (r21 * (Int32.toInt64 r24)), .ref n_t]) ⟨hx, hb, hml, hown, hts⟩ (m_X6_numberOf l dC dI k F H.size n_t n_text n_readPage n_page n_trial n_book n_kept n_isKept n_seenStation n_seenOther n_seenWide n_seenWas n_sines n_at n_column n_gram n_right n_work (0 : Int32) v_textSize v_place v_stations v_readStations v_doings v_seen v_seed w16 v_up v_low w17 w18 w19 w22 r26 e30) (cwV 1 hts gX6_rest_X6_numberOf rfl rfl rfl (by decide +kernel) ⟨Nat.le_of_ble_eq_true rfl, Nat.le_of_ble_eq_true rfl⟩) (g_preV hG hP hD hS hA [0, 3, 4, 5, 6] rfl (by decide) (ci := 6) (q0 := 0) rfl rfl) rfl rfl hl.1 rfl (lv_room (Nat.le_of_ble_eq_true rfl)) dX6_rest_119 ⟨Nat.le_of_ble_eq_true rfl, Nat.le_of_ble_eq_true rfl⟩) hP hD hS hA [0, 3, 4, 5, 6] [1, 2] [2, 0, 1, 3, 4, 5, 6] rfl rfl (by decide) (by decide) rfl (by decide) (fun H locs hP hD hS => ?_)
        refine lv_lsub hx hb dX6_rest_122 ?_
        refine lv_aload_n hx hb dX6_rest_123 rfl (lv_at hl 2 rfl) ?_
        refine lv_aload_n hx hb dX6_rest_124 rfl (lv_at hl 2 rfl) ?_
        refine va_get (D := (dC, dI)) (ci := 6) (v := .ref n_page) (C := RX6) (T := TX6) (N := 28) hx hb hts hinX6 hown hG.1 hP 0 rfl rfl 7 (by decide) k2 (fun _ h9 => h9) rfl dX6_rest_125 ?_
        refine lv_iload_n hx hb dX6_rest_128 rfl (lv_at hl 3 rfl) ?_
        refine lv_iconst (v := (4 : Int32)) hx hb dX6_rest_129 (by decide) ?_
        obtain ⟨r31, e32, hm⟩ := bnd1_some hm
        refine g_calli (w2 := (wd_88cc5a k n_t n_text n_readPage n_page n_trial n_book n_kept n_isKept n_seenStation n_seenOther n_seenWide n_seenWas n_sines n_at n_column n_gram n_right n_work (0 : Int32) v_textSize v_place v_stations v_readStations v_doings v_seen v_seed w16 v_up v_low r_page r_sines w17 w18 w19 w29)) (va_runS (As := [.ref n_page, .int x1, .int (4 : Int32)]) (rest := [.ref n_t, .long ((r21 * (Int32.toInt64 r24)) - r28), .ref n_t]) ⟨hx, hb, hml, hown, hts⟩ (m_X6_of l dC dI k H.size n_page r_page x1 (4 : Int32) e32) (va_cwS 3 hts gX6_rest_X6_of rfl rfl rfl (by decide +kernel) ⟨Nat.le_of_ble_eq_true rfl, Nat.le_of_ble_eq_true rfl⟩) (g_preS hG hP hD hS hA [1] rfl (by decide)) rfl rfl hl.1 rfl (lv_room (Nat.le_of_ble_eq_true rfl)) dX6_rest_130 ⟨Nat.le_of_ble_eq_true rfl, Nat.le_of_ble_eq_true rfl⟩) hP hD hS hA [1] [0, 2, 3, 4, 5, 6] [0, 6, 1, 2, 3, 4, 5] rfl rfl (by decide) (by decide) rfl (by decide) (fun H locs hP hD hS => ?_)
        obtain ⟨r33, w34, e35, hm⟩ := bnd2_some hm
        refine g_calll (w2 := (wd_88cc5a k n_t n_text n_readPage n_page n_trial n_book n_kept n_isKept n_seenStation n_seenOther n_seenWide n_seenWas n_sines n_at n_column n_gram n_right n_work (0 : Int32) v_textSize v_place v_stations v_readStations v_doings v_seen v_seed w16 v_up v_low r_page r_sines w17 w18 w19 w34)) (va_runV (As := [.int r31]) (rest := [.long ((r21 * (Int32.toInt64 r24)) - r28), .ref n_t]) ⟨hx, hb, hml, hown, hts⟩ (m_X6_numberOf l dC dI k F H.size n_t n_text n_readPage n_page n_trial n_book n_kept n_isKept n_seenStation n_seenOther n_seenWide n_seenWas n_sines n_at n_column n_gram n_right n_work (0 : Int32) v_textSize v_place v_stations v_readStations v_doings v_seen v_seed w16 v_up v_low w17 w18 w19 w29 r31 e35) (cwV 1 hts gX6_rest_X6_numberOf rfl rfl rfl (by decide +kernel) ⟨Nat.le_of_ble_eq_true rfl, Nat.le_of_ble_eq_true rfl⟩) (g_preV hG hP hD hS hA [0, 3, 4, 5, 6] rfl (by decide) (ci := 6) (q0 := 0) rfl rfl) rfl rfl hl.1 rfl (lv_room (Nat.le_of_ble_eq_true rfl)) dX6_rest_133 ⟨Nat.le_of_ble_eq_true rfl, Nat.le_of_ble_eq_true rfl⟩) hP hD hS hA [0, 3, 4, 5, 6] [1, 2] [2, 0, 1, 3, 4, 5, 6] rfl rfl (by decide) (by decide) rfl (by decide) (fun H locs hP hD hS => ?_)
        refine lv_ladd hx hb dX6_rest_136 ?_
        refine lv_lload hx hb dX6_rest_137 (lv_at hl 0 rfl) ?_
        obtain ⟨w36, w37, e38, hm⟩ := bnd2_some hm
        refine g_callv (w2 := (wd_88cc5a k n_t n_text n_readPage n_page n_trial n_book n_kept n_isKept n_seenStation n_seenOther n_seenWide n_seenWas n_sines n_at n_column n_gram n_right n_work (0 : Int32) v_textSize v_place v_stations v_readStations v_doings v_seen v_seed w16 w36 w37 r_page r_sines w17 w18 w19 w34)) (va_runV (As := [.long (((r21 * (Int32.toInt64 r24)) - r28) + r33), .long r21]) (rest := []) ⟨hx, hb, hml, hown, hts⟩ (m_X6_layFraction l dC dI k F H.size n_t n_text n_readPage n_page n_trial n_book n_kept n_isKept n_seenStation n_seenOther n_seenWide n_seenWas n_sines n_at n_column n_gram n_right n_work (0 : Int32) v_textSize v_place v_stations v_readStations v_doings v_seen v_seed w16 v_up v_low (((r21 * (Int32.toInt64 r24)) - r28) + r33) r21 e38) (cwV 2 hts gX6_rest_X6_layFraction rfl rfl rfl (by decide +kernel) ⟨Nat.le_of_ble_eq_true rfl, Nat.le_of_ble_eq_true rfl⟩) (g_preV hG hP hD hS hA [0] rfl (by decide) (ci := 6) (q0 := 0) rfl rfl) rfl rfl hl.1 rfl (lv_room (Nat.le_of_ble_eq_true rfl)) dX6_rest_139 ⟨Nat.le_of_ble_eq_true rfl, Nat.le_of_ble_eq_true rfl⟩) hP hD hS hA [0] [1, 2, 3, 4, 5, 6] [6, 0, 1, 2, 3, 4, 5] rfl rfl (by decide) (by decide) rfl (by decide) (fun H locs hP hD hS => ?_)
        refine lv_aload_n hx hb dX6_rest_142 rfl (lv_at hl 2 rfl) ?_
        refine lv_iload_n hx hb dX6_rest_143 rfl (lv_at hl 5 rfl) ?_
        obtain ⟨r39, e40, hm⟩ := bnd1_some hm
        refine g_calll (w2 := (wd_88cc5a k n_t n_text n_readPage n_page n_trial n_book n_kept n_isKept n_seenStation n_seenOther n_seenWide n_seenWas n_sines n_at n_column n_gram n_right n_work (0 : Int32) v_textSize v_place v_stations v_readStations v_doings v_seen v_seed w16 w36 w37 r_page r_sines w17 w18 w19 w34)) (va_runV (As := [.int x3]) (rest := []) ⟨hx, hb, hml, hown, hts⟩ (m_X6_told l dC dI k H.size n_t n_text n_readPage n_page n_trial n_book n_kept n_isKept n_seenStation n_seenOther n_seenWide n_seenWas n_sines n_at n_column n_gram n_right n_work (0 : Int32) v_textSize v_place v_stations v_readStations v_doings v_seen v_seed w16 w36 w37 x3 e40) (cwV 1 hts gX6_rest_X6_told rfl rfl rfl (by decide +kernel) ⟨Nat.le_of_ble_eq_true rfl, Nat.le_of_ble_eq_true rfl⟩) (g_preV hG hP hD hS hA [0] rfl (by decide) (ci := 6) (q0 := 0) rfl rfl) rfl rfl hl.1 rfl (lv_room (Nat.le_of_ble_eq_true rfl)) dX6_rest_144 ⟨Nat.le_of_ble_eq_true rfl, Nat.le_of_ble_eq_true rfl⟩) hP hD hS hA [0] [1, 2, 3, 4, 5, 6] [6, 0, 1, 2, 3, 4, 5] rfl rfl (by decide) (by decide) rfl (by decide) (fun H locs hP hD hS => ?_)
        exact RET _ _ _ _ _ _ _ _ _ _ _ _ _ dX6_rest_147 hm hP hD hS
      · replace hm := ifp c13 hm
        refine lv_ldc2 (v := (-3 : Int64)) hx hb hown k3 dX6_rest_64 ?_
        exact RET _ _ _ _ _ _ _ _ _ _ _ _ _ dX6_rest_67 hm hP hD hS
    · replace hm := ifp c6 hm
      refine lv_ldc2 (v := (-2 : Int64)) hx hb hown k4 dX6_rest_29 ?_
      exact RET _ _ _ _ _ _ _ _ _ _ _ _ _ dX6_rest_32 hm hP hD hS
  · replace hm := ifn c3 hm
    refine lv_ldc2 (v := (-1 : Int64)) hx hb hown k5 dX6_rest_13 ?_
    exact RET _ _ _ _ _ _ _ _ _ _ _ _ _ dX6_rest_16 hm hP hD hS
set_option maxRecDepth 100000 in
theorem m_X6_rest (l : Launch) (dC : Nat → ClassId) (dI : Nat → Nat → Nat) (k : Nat → ClassId) (F : Nat) (sz : Nat) (n_t n_text n_readPage n_page n_trial n_book n_kept n_isKept n_seenStation n_seenOther n_seenWide n_seenWas n_sines n_at n_column n_gram n_right n_work : Nat) (v_thrown : Int32) (v_textSize : Int32) (v_place : Int32) (v_stations : Int32) (v_readStations : Int32) (v_doings : Int32) (v_seen : Int32) (v_seed : Int64) (v_wide : Int32) (v_up : Int64) (v_low : Int64) (r_page : Nat → Int32) (r_sines : Nat → Int32) (r_column : Nat → Int32) (r_gram : Nat → Int64) (r_right : Nat → Int64) (r_work : Nat → Int64) (x1 : Int32) (x2 : Int32) (x3 : Int32) {o_r : Int64} {o_v_thrown : (Int32)} {o_v_wide : (Int32)} {o_v_up : (Int64)} {o_v_low : (Int64)} {o_r_column : (Nat → Int32)} {o_r_gram : (Nat → Int64)} {o_r_right : (Nat → Int64)} {o_r_work : (Nat → Int64)} (hm : f_X6_rest F x1 x2 x3 v_thrown v_wide v_up v_low r_page r_sines r_column r_gram r_right r_work = some (o_r, o_v_thrown, o_v_wide, o_v_up, o_v_low, o_r_column, o_r_gram, o_r_right, o_r_work)) : Met l yX6_rest wsX6_rest rm_X6_rest (gPre dC dI k [.ref n_t, .int x1, .int x2, .int x3] sz (wd_88cc5a k n_t n_text n_readPage n_page n_trial n_book n_kept n_isKept n_seenStation n_seenOther n_seenWide n_seenWas n_sines n_at n_column n_gram n_right n_work v_thrown v_textSize v_place v_stations v_readStations v_doings v_seen v_seed v_wide v_up v_low r_page r_sines r_column r_gram r_right r_work)) (gQL dC dI (va_A (wd_88cc5a k n_t n_text n_readPage n_page n_trial n_book n_kept n_isKept n_seenStation n_seenOther n_seenWide n_seenWas n_sines n_at n_column n_gram n_right n_work v_thrown v_textSize v_place v_stations v_readStations v_doings v_seen v_seed v_wide v_up v_low r_page r_sines r_column r_gram r_right r_work) sz) o_r (wd_88cc5a k n_t n_text n_readPage n_page n_trial n_book n_kept n_isKept n_seenStation n_seenOther n_seenWide n_seenWas n_sines n_at n_column n_gram n_right n_work o_v_thrown v_textSize v_place v_stations v_readStations v_doings v_seen v_seed o_v_wide o_v_up o_v_low r_page r_sines o_r_column o_r_gram o_r_right o_r_work)) 0 0 (va_A (wd_88cc5a k n_t n_text n_readPage n_page n_trial n_book n_kept n_isKept n_seenStation n_seenOther n_seenWide n_seenWas n_sines n_at n_column n_gram n_right n_work v_thrown v_textSize v_place v_stations v_readStations v_doings v_seen v_seed v_wide v_up v_low r_page r_sines r_column r_gram r_right r_work) sz) := by
  refine g_entry (cc := cX6_rest) (maxL := 7) (ret := (some .long)) (lv := [(0, .ref n_t), (1, .int x1), (2, .int x2), (3, .int x3)]) (by decide +kernel) rfl (Nat.le_of_ble_eq_true rfl) rfl (fun p e s m below meth c ls hx hb hr hml hts hown hlk hnm hsz hG hA hP hD hS hl => ?_)
  exact k_X6_rest hx hb hml hts hown hG hA F n_t n_text n_readPage n_page n_trial n_book n_kept n_isKept n_seenStation n_seenOther n_seenWide n_seenWas n_sines n_at n_column n_gram n_right n_work v_thrown v_textSize v_place v_stations v_readStations v_doings v_seen v_seed v_wide v_up v_low r_page r_sines r_column r_gram r_right r_work x1 x2 x3 o_r o_v_thrown o_v_wide o_v_up o_v_low o_r_column o_r_gram o_r_right o_r_work (fun pc H locs ls v q_v_thrown q_v_wide q_v_up q_v_low q_r_column q_r_gram q_r_right q_r_work hd ho hP hD hS => by cases ho; exact g_lret hx hb hr hlk hP hD hS hd) s.heap [] ls hl hP hD hS hm
end
section
set_option maxHeartbeats 4000000 in
set_option maxRecDepth 100000 in
theorem k_X6_laySquares {p : Program} {l : Launch} {e : Env} {s : State} {m : MethodId} {args : Array Value} {below : List Frame} {meth : Method} {c : Code} {A : Nat → Prop} {Q : State → Prop} {dC : Nat → ClassId} {dI : Nat → Nat → Nat} {k : Nat → ClassId} (hx : p.tables.exec = Jvm.exec) (hb : c.code = cX6_laySquares) (hml : c.maxLocals = 12) (hts : ∀ w ∈ wsX6_laySquares, w.before args s = true) (hown : s.vm.findClass RX6 = some m.cls) (hG : gK dC dI k A s) (hA : ∀ q : Nat, s.heap.size ≤ q → A q) (F : Nat) (n_t n_p1 n_text n_readPage n_page n_trial n_book n_kept n_isKept n_seenStation n_seenOther n_seenWide n_seenWas n_sines n_at n_column n_gram n_right n_work : Nat) (v_thrown : Int32) (v_textSize : Int32) (v_place : Int32) (v_stations : Int32) (v_readStations : Int32) (v_doings : Int32) (v_seen : Int32) (v_seed : Int64) (v_wide : Int32) (v_up : Int64) (v_low : Int64) (r_sines : Nat → Int32) (r_column : Nat → Int32) (r_gram : Nat → Int64) (r_right : Nat → Int64) (r_work : Nat → Int64) (r_p1 : Nat → Int32) (x2 : Int32) (x3 : Int32) (o_v_wide : (Int32)) (o_v_up : (Int64)) (o_v_low : (Int64)) (o_r_column : (Nat → Int32)) (o_r_gram : (Nat → Int64)) (o_r_right : (Nat → Int64)) (o_r_work : (Nat → Int64)) (RET : ∀ (pc : Nat) (H : Heap) (locs : List Loc) (ls : Array Slot) (q_v_wide : Int32) (q_v_up : Int64) (q_v_low : Int64) (q_r_column : Nat → Int32) (q_r_gram : Nat → Int64) (q_r_right : Nat → Int64) (q_r_work : Nat → Int64), decode cX6_laySquares pc = .ok (.return_, 1) → some (q_v_wide, q_v_up, q_v_low, q_r_column, q_r_gram, q_r_right, q_r_work) = some (o_v_wide, o_v_up, o_v_low, o_r_column, o_r_gram, o_r_right, o_r_work) → va_P (dC, dI) vwCl (wd_33317f k n_t n_p1 n_text n_readPage n_page n_trial n_book n_kept n_isKept n_seenStation n_seenOther n_seenWide n_seenWas n_sines n_at n_column n_gram n_right n_work v_thrown v_textSize v_place v_stations v_readStations v_doings v_seen v_seed q_v_wide q_v_up q_v_low r_sines q_r_column q_r_gram q_r_right q_r_work r_p1) H → va_D A (wd_33317f k n_t n_p1 n_text n_readPage n_page n_trial n_book n_kept n_isKept n_seenStation n_seenOther n_seenWide n_seenWas n_sines n_at n_column n_gram n_right n_work v_thrown v_textSize v_place v_stations v_readStations v_doings v_seen v_seed q_v_wide q_v_up q_v_low r_sines q_r_column q_r_gram q_r_right q_r_work r_p1) → va_S A s.heap H locs → W p l e rm_X6_laySquares s m args below meth c H locs 0 0 Q (F0 m pc ls [])) (H : Heap) (locs : List Loc) (ls : Array Slot) (hl : lv_has ls 12 [(0, .ref n_t), (1, .ref n_p1), (2, .int x2), (3, .int x3)]) (hP : va_P (dC, dI) vwCl (wd_33317f k n_t n_p1 n_text n_readPage n_page n_trial n_book n_kept n_isKept n_seenStation n_seenOther n_seenWide n_seenWas n_sines n_at n_column n_gram n_right n_work v_thrown v_textSize v_place v_stations v_readStations v_doings v_seen v_seed v_wide v_up v_low r_sines r_column r_gram r_right r_work r_p1) H) (hD : va_D A (wd_33317f k n_t n_p1 n_text n_readPage n_page n_trial n_book n_kept n_isKept n_seenStation n_seenOther n_seenWide n_seenWas n_sines n_at n_column n_gram n_right n_work v_thrown v_textSize v_place v_stations v_readStations v_doings v_seen v_seed v_wide v_up v_low r_sines r_column r_gram r_right r_work r_p1)) (hS : va_S A s.heap H locs) (hm : f_X6_laySquares F x2 x3 v_wide v_up v_low r_sines r_column r_gram r_right r_work r_p1 = some (o_v_wide, o_v_up, o_v_low, o_r_column, o_r_gram, o_r_right, o_r_work)) : W p l e rm_X6_laySquares s m args below meth c H locs 0 0 Q (F0 m 0 ls []) := by
  have hinX6 : ∀ w ∈ u_ws RX6 TX6 28, w ∈ wsX6_laySquares := by decide +kernel
  have k0 := hts (.fieldLink RX6 175 "CaveLegsModel" "wide" "I") (by decide +kernel)
  have k1 := hts (.fieldLink RX6 61 "CaveLegsModel" "right" "[J") (by decide +kernel)
  have L_9 : ∀ (n9 : Nat) (v_wide : Int32) (v_up : Int64) (v_low : Int64) (r_column : Nat → Int32) (r_gram : Nat → Int64) (r_right : Nat → Int64) (r_work : Nat → Int64) (x2 : Int32) (x3 : Int32) (x4 : Int64) (x6 : Int64) (x8 : Int32) (H : Heap) (locs : List Loc) (ls : Array Slot), lv_has ls 12 [(0, .ref n_t), (1, .ref n_p1), (2, .int x2), (3, .int x3), (4, .long x4), (6, .long x6), (8, .int x8)] → va_P (dC, dI) vwCl (wd_33317f k n_t n_p1 n_text n_readPage n_page n_trial n_book n_kept n_isKept n_seenStation n_seenOther n_seenWide n_seenWas n_sines n_at n_column n_gram n_right n_work v_thrown v_textSize v_place v_stations v_readStations v_doings v_seen v_seed v_wide v_up v_low r_sines r_column r_gram r_right r_work r_p1) H → va_D A (wd_33317f k n_t n_p1 n_text n_readPage n_page n_trial n_book n_kept n_isKept n_seenStation n_seenOther n_seenWide n_seenWas n_sines n_at n_column n_gram n_right n_work v_thrown v_textSize v_place v_stations v_readStations v_doings v_seen v_seed v_wide v_up v_low r_sines r_column r_gram r_right r_work r_p1) → va_S A s.heap H locs → f_X6_laySquares_L9 F r_sines r_p1 n9 v_wide v_up v_low r_column r_gram r_right r_work x2 x3 x4 x6 x8 = some (o_v_wide, o_v_up, o_v_low, o_r_column, o_r_gram, o_r_right, o_r_work) → W p l e rm_X6_laySquares s m args below meth c H locs 0 0 Q (F0 m 9 ls []) := by
    intro n9
    induction n9 with
    | zero =>
      intro v_wide v_up v_low r_column r_gram r_right r_work x2 x3 x4 x6 x8 H locs ls hl hP hD hS hm
      exact non_some hm
    | succ n9 ih9 =>
      have L_101 : ∀ (n101 : Nat) (v_wide : Int32) (v_up : Int64) (v_low : Int64) (r_column : Nat → Int32) (r_gram : Nat → Int64) (r_right : Nat → Int64) (r_work : Nat → Int64) (x2 : Int32) (x3 : Int32) (x4 : Int64) (x6 : Int64) (x8 : Int32) (x9 : Int32) (H : Heap) (locs : List Loc) (ls : Array Slot), lv_has ls 12 [(0, .ref n_t), (1, .ref n_p1), (2, .int x2), (3, .int x3), (4, .long x4), (6, .long x6), (8, .int x8), (9, .int x9)] → va_P (dC, dI) vwCl (wd_33317f k n_t n_p1 n_text n_readPage n_page n_trial n_book n_kept n_isKept n_seenStation n_seenOther n_seenWide n_seenWas n_sines n_at n_column n_gram n_right n_work v_thrown v_textSize v_place v_stations v_readStations v_doings v_seen v_seed v_wide v_up v_low r_sines r_column r_gram r_right r_work r_p1) H → va_D A (wd_33317f k n_t n_p1 n_text n_readPage n_page n_trial n_book n_kept n_isKept n_seenStation n_seenOther n_seenWide n_seenWas n_sines n_at n_column n_gram n_right n_work v_thrown v_textSize v_place v_stations v_readStations v_doings v_seen v_seed v_wide v_up v_low r_sines r_column r_gram r_right r_work r_p1) → va_S A s.heap H locs → f_X6_laySquares_L101 F r_sines r_p1 (f_X6_laySquares_L9 F r_sines r_p1 n9) n101 v_wide v_up v_low r_column r_gram r_right r_work x2 x3 x4 x6 x8 x9 = some (o_v_wide, o_v_up, o_v_low, o_r_column, o_r_gram, o_r_right, o_r_work) → W p l e rm_X6_laySquares s m args below meth c H locs 0 0 Q (F0 m 101 ls []) := by
        intro n101
        induction n101 with
        | zero =>
          intro v_wide v_up v_low r_column r_gram r_right r_work x2 x3 x4 x6 x8 x9 H locs ls hl hP hD hS hm
          exact non_some hm
        | succ n101 ih101 =>
          intro v_wide v_up v_low r_column r_gram r_right r_work x2 x3 x4 x6 x8 x9 H locs ls hl hP hD hS hm
          replace hm : f_X6_laySquares_B101 F r_sines r_p1 (f_X6_laySquares_L9 F r_sines r_p1 n9) (f_X6_laySquares_L101 F r_sines r_p1 (f_X6_laySquares_L9 F r_sines r_p1 n9) n101) v_wide v_up v_low r_column r_gram r_right r_work x2 x3 x4 x6 x8 x9 = some (o_v_wide, o_v_up, o_v_low, o_r_column, o_r_gram, o_r_right, o_r_work) := hm
          unfold f_X6_laySquares_B101 at hm
          refine lv_iload hx hb dX6_laySquares_101 (lv_at hl 7 rfl) ?_
          refine lv_aload_n hx hb dX6_laySquares_103 rfl (lv_at hl 0 rfl) ?_
          refine va_get (D := (dC, dI)) (ci := 6) (v := .int v_wide) (C := RX6) (T := TX6) (N := 28) hx hb hts hinX6 hown hG.1 hP 0 rfl rfl 21 (by decide) k0 (fun _ h9 => h9) rfl dX6_laySquares_104 ?_
          refine lv_icmp_ge (tgt := 135) hx hb dX6_laySquares_107 (by decide) (fun c1 => ?_) (fun c1 => ?_)
          · replace hm := ifp c1 hm
            obtain ⟨t2, et2⟩ : ∃ y : Int32, y = x8 + (1 : Int32) := ⟨_, rfl⟩
            replace hm := (nmd_eq et2).trans hm
            refine lv_iinc (v := t2) (lv' := [(8, .int t2), (0, .ref n_t), (1, .ref n_p1), (2, .int x2), (3, .int x3), (4, .long x4), (6, .long x6), (9, .int x9)]) hx hb dX6_laySquares_135 hl (k := 6) rfl (by rw [et2]; rfl) (by decide) rfl (fun ls hl => ?_)
            refine lv_goto (tgt := 9) hx hb dX6_laySquares_138 (by decide) ?_
            exact ih9 _ _ _ _ _ _ _ _ _ _ _ _ _ _ _ (lv_sub hl [1, 2, 3, 4, 5, 6, 0] rfl) hP hD hS hm
          · replace hm := ifn c1 hm
            refine lv_lload hx hb dX6_laySquares_110 (lv_at hl 4 rfl) ?_
            refine lv_aload_n hx hb dX6_laySquares_112 rfl (lv_at hl 0 rfl) ?_
            refine va_get (D := (dC, dI)) (ci := 6) (v := .ref n_right) (C := RX6) (T := TX6) (N := 28) hx hb hts hinX6 hown hG.1 hP 0 rfl rfl 24 (by decide) k1 (fun _ h9 => h9) rfl dX6_laySquares_113 ?_
            refine lv_iload hx hb dX6_laySquares_116 (lv_at hl 7 rfl) ?_
            obtain ⟨hi3, hm⟩ := chk_some hm
            refine va_lald hx hb hG.1 hP 4 1 rfl rfl hi3 dX6_laySquares_118 ?_
            refine lv_aload_n hx hb dX6_laySquares_119 rfl (lv_at hl 0 rfl) ?_
            refine lv_iload hx hb dX6_laySquares_120 (lv_at hl 7 rfl) ?_
            obtain ⟨r4, w5, e6, hm⟩ := bnd2_some hm
            refine g_calll (w2 := (wd_33317f k n_t n_p1 n_text n_readPage n_page n_trial n_book n_kept n_isKept n_seenStation n_seenOther n_seenWide n_seenWas n_sines n_at n_column n_gram n_right n_work v_thrown v_textSize v_place v_stations v_readStations v_doings v_seen v_seed v_wide v_up v_low r_sines r_column r_gram r_right w5 r_p1)) (va_runV (As := [.int x9]) (rest := [.long (r_right (Int32.toNatClampNeg x9)), .long x4]) ⟨hx, hb, hml, hown, hts⟩ (m_X6_determinant l dC dI k F H.size n_t n_text n_readPage n_page n_trial n_book n_kept n_isKept n_seenStation n_seenOther n_seenWide n_seenWas n_sines n_at n_column n_gram n_right n_work v_thrown v_textSize v_place v_stations v_readStations v_doings v_seen v_seed v_wide v_up v_low r_gram r_right r_work x9 e6) (cwV 1 hts gX6_laySquares_X6_determinant rfl rfl rfl (by decide +kernel) ⟨Nat.le_of_ble_eq_true rfl, Nat.le_of_ble_eq_true rfl⟩) (g_preV hG hP hD hS hA [0, 3, 4, 5] rfl (by decide) (ci := 6) (q0 := 0) rfl rfl) rfl rfl hl.1 rfl (lv_room (Nat.le_of_ble_eq_true rfl)) dX6_laySquares_122 ⟨Nat.le_of_ble_eq_true rfl, Nat.le_of_ble_eq_true rfl⟩) hP hD hS hA [0, 3, 4, 5] [1, 2, 6] [3, 0, 1, 4, 5, 6, 2] rfl rfl (by decide) (by decide) rfl (by decide) (fun H locs hP hD hS => ?_)
            refine lv_lmul hx hb dX6_laySquares_125 ?_
            refine lv_lsub hx hb dX6_laySquares_126 ?_
            refine lv_topl (fun t7 et7 => ?_)
            replace hm := (nmd_eq et7).trans hm
            refine lv_lstore (lv' := [(4, .long t7), (0, .ref n_t), (1, .ref n_p1), (2, .int x2), (3, .int x3), (6, .long x6), (8, .int x8), (9, .int x9)]) hx hb dX6_laySquares_127 hl (by decide) rfl (fun ls hl => ?_)
            obtain ⟨t8, et8⟩ : ∃ y : Int32, y = x9 + (1 : Int32) := ⟨_, rfl⟩
            replace hm := (nmd_eq et8).trans hm
            refine lv_iinc (v := t8) (lv' := [(9, .int t8), (4, .long t7), (0, .ref n_t), (1, .ref n_p1), (2, .int x2), (3, .int x3), (6, .long x6), (8, .int x8)]) hx hb dX6_laySquares_129 hl (k := 7) rfl (by rw [et8]; rfl) (by decide) rfl (fun ls hl => ?_)
            refine lv_goto (tgt := 101) hx hb dX6_laySquares_132 (by decide) ?_
            exact ih101 _ _ _ _ _ _ _ _ _ _ _ _ _ _ _ _ (lv_sub hl [2, 3, 4, 5, 1, 6, 7, 0] rfl) hP hD hS hm
      have L_35 : ∀ (n35 : Nat) (v_wide : Int32) (v_up : Int64) (v_low : Int64) (r_column : Nat → Int32) (r_gram : Nat → Int64) (r_right : Nat → Int64) (r_work : Nat → Int64) (x2 : Int32) (x3 : Int32) (x4 : Int64) (x6 : Int64) (x8 : Int32) (x9 : Int32) (H : Heap) (locs : List Loc) (ls : Array Slot), lv_has ls 12 [(0, .ref n_t), (1, .ref n_p1), (2, .int x2), (3, .int x3), (4, .long x4), (6, .long x6), (8, .int x8), (9, .int x9)] → va_P (dC, dI) vwCl (wd_33317f k n_t n_p1 n_text n_readPage n_page n_trial n_book n_kept n_isKept n_seenStation n_seenOther n_seenWide n_seenWas n_sines n_at n_column n_gram n_right n_work v_thrown v_textSize v_place v_stations v_readStations v_doings v_seen v_seed v_wide v_up v_low r_sines r_column r_gram r_right r_work r_p1) H → va_D A (wd_33317f k n_t n_p1 n_text n_readPage n_page n_trial n_book n_kept n_isKept n_seenStation n_seenOther n_seenWide n_seenWas n_sines n_at n_column n_gram n_right n_work v_thrown v_textSize v_place v_stations v_readStations v_doings v_seen v_seed v_wide v_up v_low r_sines r_column r_gram r_right r_work r_p1) → va_S A s.heap H locs → f_X6_laySquares_L35 F r_sines r_p1 (f_X6_laySquares_L9 F r_sines r_p1 n9) n35 v_wide v_up v_low r_column r_gram r_right r_work x2 x3 x4 x6 x8 x9 = some (o_v_wide, o_v_up, o_v_low, o_r_column, o_r_gram, o_r_right, o_r_work) → W p l e rm_X6_laySquares s m args below meth c H locs 0 0 Q (F0 m 35 ls []) := by
        intro n35
        induction n35 with
        | zero =>
          intro v_wide v_up v_low r_column r_gram r_right r_work x2 x3 x4 x6 x8 x9 H locs ls hl hP hD hS hm
          exact non_some hm
        | succ n35 ih35 =>
          have J_89 : ∀ (v_wide : Int32) (v_up : Int64) (v_low : Int64) (r_column : Nat → Int32) (r_gram : Nat → Int64) (r_right : Nat → Int64) (r_work : Nat → Int64) (x2 : Int32) (x3 : Int32) (x6 : Int64) (x8 : Int32) (x9 : Int32) (s0 : Int64) (s1 : Int64) (H : Heap) (locs : List Loc) (ls : Array Slot), lv_has ls 12 [(0, .ref n_t), (1, .ref n_p1), (2, .int x2), (3, .int x3), (6, .long x6), (8, .int x8), (9, .int x9)] → va_P (dC, dI) vwCl (wd_33317f k n_t n_p1 n_text n_readPage n_page n_trial n_book n_kept n_isKept n_seenStation n_seenOther n_seenWide n_seenWas n_sines n_at n_column n_gram n_right n_work v_thrown v_textSize v_place v_stations v_readStations v_doings v_seen v_seed v_wide v_up v_low r_sines r_column r_gram r_right r_work r_p1) H → va_D A (wd_33317f k n_t n_p1 n_text n_readPage n_page n_trial n_book n_kept n_isKept n_seenStation n_seenOther n_seenWide n_seenWas n_sines n_at n_column n_gram n_right n_work v_thrown v_textSize v_place v_stations v_readStations v_doings v_seen v_seed v_wide v_up v_low r_sines r_column r_gram r_right r_work r_p1) → va_S A s.heap H locs → f_X6_laySquares_J89 F r_sines r_p1 (f_X6_laySquares_L9 F r_sines r_p1 n9) (f_X6_laySquares_L35 F r_sines r_p1 (f_X6_laySquares_L9 F r_sines r_p1 n9) n35) v_wide v_up v_low r_column r_gram r_right r_work x2 x3 x6 x8 x9 s0 s1 = some (o_v_wide, o_v_up, o_v_low, o_r_column, o_r_gram, o_r_right, o_r_work) → W p l e rm_X6_laySquares s m args below meth c H locs 0 0 Q (F0 m 89 ls [.long s1, .long s0]) := by
            intro v_wide v_up v_low r_column r_gram r_right r_work x2 x3 x6 x8 x9 s0 s1 H locs ls hl hP hD hS hm
            unfold f_X6_laySquares_J89 at hm
            refine lv_ladd hx hb dX6_laySquares_89 ?_
            refine lv_topl (fun t9 et9 => ?_)
            replace hm := (nmd_eq et9).trans hm
            refine lv_lstore (lv' := [(4, .long t9), (0, .ref n_t), (1, .ref n_p1), (2, .int x2), (3, .int x3), (6, .long x6), (8, .int x8), (9, .int x9)]) hx hb dX6_laySquares_90 hl (by decide) rfl (fun ls hl => ?_)
            obtain ⟨t10, et10⟩ : ∃ y : Int32, y = x9 + (1 : Int32) := ⟨_, rfl⟩
            replace hm := (nmd_eq et10).trans hm
            refine lv_iinc (v := t10) (lv' := [(9, .int t10), (4, .long t9), (0, .ref n_t), (1, .ref n_p1), (2, .int x2), (3, .int x3), (6, .long x6), (8, .int x8)]) hx hb dX6_laySquares_92 hl (k := 7) rfl (by rw [et10]; rfl) (by decide) rfl (fun ls hl => ?_)
            refine lv_goto (tgt := 35) hx hb dX6_laySquares_95 (by decide) ?_
            exact ih35 _ _ _ _ _ _ _ _ _ _ _ _ _ _ _ _ (lv_sub hl [2, 3, 4, 5, 1, 6, 7, 0] rfl) hP hD hS hm
          have J_88 : ∀ (v_wide : Int32) (v_up : Int64) (v_low : Int64) (r_column : Nat → Int32) (r_gram : Nat → Int64) (r_right : Nat → Int64) (r_work : Nat → Int64) (x2 : Int32) (x3 : Int32) (x6 : Int64) (x8 : Int32) (x9 : Int32) (s0 : Int64) (H : Heap) (locs : List Loc) (ls : Array Slot), lv_has ls 12 [(0, .ref n_t), (1, .ref n_p1), (2, .int x2), (3, .int x3), (6, .long x6), (8, .int x8), (9, .int x9)] → va_P (dC, dI) vwCl (wd_33317f k n_t n_p1 n_text n_readPage n_page n_trial n_book n_kept n_isKept n_seenStation n_seenOther n_seenWide n_seenWas n_sines n_at n_column n_gram n_right n_work v_thrown v_textSize v_place v_stations v_readStations v_doings v_seen v_seed v_wide v_up v_low r_sines r_column r_gram r_right r_work r_p1) H → va_D A (wd_33317f k n_t n_p1 n_text n_readPage n_page n_trial n_book n_kept n_isKept n_seenStation n_seenOther n_seenWide n_seenWas n_sines n_at n_column n_gram n_right n_work v_thrown v_textSize v_place v_stations v_readStations v_doings v_seen v_seed v_wide v_up v_low r_sines r_column r_gram r_right r_work r_p1) → va_S A s.heap H locs → f_X6_laySquares_J88 F r_sines r_p1 (f_X6_laySquares_L9 F r_sines r_p1 n9) (f_X6_laySquares_L35 F r_sines r_p1 (f_X6_laySquares_L9 F r_sines r_p1 n9) n35) v_wide v_up v_low r_column r_gram r_right r_work x2 x3 x6 x8 x9 s0 = some (o_v_wide, o_v_up, o_v_low, o_r_column, o_r_gram, o_r_right, o_r_work) → W p l e rm_X6_laySquares s m args below meth c H locs 0 0 Q (F0 m 88 ls [.long s0]) := by
            intro v_wide v_up v_low r_column r_gram r_right r_work x2 x3 x6 x8 x9 s0 H locs ls hl hP hD hS hm
            unfold f_X6_laySquares_J88 at hm
            refine lv_lconst (v := (0 : Int64)) hx hb dX6_laySquares_88 (by decide) ?_
            exact J_89 _ _ _ _ _ _ _ _ _ _ _ _ _ _ _ _ _ (lv_sub hl [0, 1, 2, 3, 4, 5, 6] rfl) hP hD hS hm
          intro v_wide v_up v_low r_column r_gram r_right r_work x2 x3 x4 x6 x8 x9 H locs ls hl hP hD hS hm
          replace hm : f_X6_laySquares_B35 F r_sines r_p1 (f_X6_laySquares_L9 F r_sines r_p1 n9) (f_X6_laySquares_L35 F r_sines r_p1 (f_X6_laySquares_L9 F r_sines r_p1 n9) n35) v_wide v_up v_low r_column r_gram r_right r_work x2 x3 x4 x6 x8 x9 = some (o_v_wide, o_v_up, o_v_low, o_r_column, o_r_gram, o_r_right, o_r_work) := hm
          unfold f_X6_laySquares_B35 at hm
          refine lv_iload hx hb dX6_laySquares_35 (lv_at hl 7 rfl) ?_
          refine lv_aload_n hx hb dX6_laySquares_37 rfl (lv_at hl 1 rfl) ?_
          refine lv_iconst (v := (0 : Int32)) hx hb dX6_laySquares_38 (by decide) ?_
          obtain ⟨hi11, hm⟩ := chk_some hm
          refine va_iald hx hb hG.1 hP 6 0 rfl rfl hi11 dX6_laySquares_39 ?_
          refine lv_icmp_ge (tgt := 98) hx hb dX6_laySquares_40 (by decide) (fun c12 => ?_) (fun c12 => ?_)
          · replace hm := ifp c12 hm
            refine lv_iconst (v := (0 : Int32)) hx hb dX6_laySquares_98 (by decide) ?_
            refine lv_istore (lv' := [(9, .int (0 : Int32)), (0, .ref n_t), (1, .ref n_p1), (2, .int x2), (3, .int x3), (4, .long x4), (6, .long x6), (8, .int x8)]) hx hb dX6_laySquares_99 hl (by decide) rfl (fun ls hl => ?_)
            exact L_101 F _ _ _ _ _ _ _ _ _ _ _ _ _ _ _ _ (lv_sub hl [1, 2, 3, 4, 5, 6, 7, 0] rfl) hP hD hS hm
          · replace hm := ifn c12 hm
            refine lv_aload_n hx hb dX6_laySquares_43 rfl (lv_at hl 0 rfl) ?_
            refine lv_aload_n hx hb dX6_laySquares_44 rfl (lv_at hl 1 rfl) ?_
            refine lv_iload hx hb dX6_laySquares_45 (lv_at hl 7 rfl) ?_
            refine lv_iload hx hb dX6_laySquares_47 (lv_at hl 6 rfl) ?_
            obtain ⟨r13, e14, hm⟩ := bnd1_some hm
            refine g_calli (w2 := (wd_33317f k n_t n_p1 n_text n_readPage n_page n_trial n_book n_kept n_isKept n_seenStation n_seenOther n_seenWide n_seenWas n_sines n_at n_column n_gram n_right n_work v_thrown v_textSize v_place v_stations v_readStations v_doings v_seen v_seed v_wide v_up v_low r_sines r_column r_gram r_right r_work r_p1)) (va_runV (As := [.ref n_p1, .int x9, .int x8]) (rest := []) ⟨hx, hb, hml, hown, hts⟩ (m_X6_stepOf l dC dI k H.size n_t n_p1 n_text n_readPage n_page n_trial n_book n_kept n_isKept n_seenStation n_seenOther n_seenWide n_seenWas n_sines n_at n_column n_gram n_right n_work v_thrown v_textSize v_place v_stations v_readStations v_doings v_seen v_seed v_wide v_up v_low r_sines r_p1 x9 x8 e14) (cwV 3 hts gX6_laySquares_X6_stepOf rfl rfl rfl (by decide +kernel) ⟨Nat.le_of_ble_eq_true rfl, Nat.le_of_ble_eq_true rfl⟩) (g_preV hG hP hD hS hA [0, 1, 6] rfl (by decide) (ci := 6) (q0 := 0) rfl rfl) rfl rfl hl.1 rfl (lv_room (Nat.le_of_ble_eq_true rfl)) dX6_laySquares_49 ⟨Nat.le_of_ble_eq_true rfl, Nat.le_of_ble_eq_true rfl⟩) hP hD hS hA [0, 1, 6] [2, 3, 4, 5] [4, 5, 0, 1, 2, 3, 6] rfl rfl (by decide) (by decide) rfl (by decide) (fun H locs hP hD hS => ?_)
            refine g_i2l hx hb dX6_laySquares_52 ?_
            refine lv_topl (fun t15 et15 => ?_)
            replace hm := (nmd_eq et15).trans hm
            refine lv_lstore (lv' := [(10, .long t15), (0, .ref n_t), (1, .ref n_p1), (2, .int x2), (3, .int x3), (4, .long x4), (6, .long x6), (8, .int x8), (9, .int x9)]) hx hb dX6_laySquares_53 hl (by decide) rfl (fun ls hl => ?_)
            refine lv_lload hx hb dX6_laySquares_55 (lv_at hl 5 rfl) ?_
            refine lv_iload_n hx hb dX6_laySquares_57 rfl (lv_at hl 3 rfl) ?_
            refine lv_iload hx hb dX6_laySquares_58 (lv_at hl 8 rfl) ?_
            obtain ⟨r16, e17, hm⟩ := bnd1_some hm
            refine g_calli (w2 := (wd_33317f k n_t n_p1 n_text n_readPage n_page n_trial n_book n_kept n_isKept n_seenStation n_seenOther n_seenWide n_seenWas n_sines n_at n_column n_gram n_right n_work v_thrown v_textSize v_place v_stations v_readStations v_doings v_seen v_seed v_wide v_up v_low r_sines r_column r_gram r_right r_work r_p1)) (va_runS (As := [.int x2, .int x9]) (rest := [.long x4]) ⟨hx, hb, hml, hown, hts⟩ (m_X6_has l dC dI k H.size  x2 x9 e17) (va_cwS 2 hts gX6_laySquares_X6_has rfl rfl rfl (by decide +kernel) ⟨Nat.le_of_ble_eq_true rfl, Nat.le_of_ble_eq_true rfl⟩) (g_preS hG hP hD hS hA [] rfl (by decide)) rfl rfl hl.1 rfl (lv_room (Nat.le_of_ble_eq_true rfl)) dX6_laySquares_60 ⟨Nat.le_of_ble_eq_true rfl, Nat.le_of_ble_eq_true rfl⟩) hP hD hS hA [] [0, 1, 2, 3, 4, 5, 6] [0, 1, 2, 3, 4, 5, 6] rfl rfl (by decide) (by decide) rfl (by decide) (fun H locs hP hD hS => ?_)
            refine lv_if_eq (tgt := 88) hx hb dX6_laySquares_63 (by decide) (fun c18 => ?_) (fun c18 => ?_)
            · replace hm := ifp c18 hm
              exact J_88 _ _ _ _ _ _ _ _ _ _ _ _ _ _ _ _ (lv_sub hl [1, 2, 3, 4, 6, 7, 8] rfl) hP hD hS hm
            · replace hm := ifn c18 hm
              refine lv_aload_n hx hb dX6_laySquares_66 rfl (lv_at hl 1 rfl) ?_
              refine lv_aload_n hx hb dX6_laySquares_67 rfl (lv_at hl 2 rfl) ?_
              refine lv_iload hx hb dX6_laySquares_68 (lv_at hl 8 rfl) ?_
              refine lv_iload_n hx hb dX6_laySquares_70 rfl (lv_at hl 4 rfl) ?_
              obtain ⟨r19, e20, hm⟩ := bnd1_some hm
              refine g_calli (w2 := (wd_33317f k n_t n_p1 n_text n_readPage n_page n_trial n_book n_kept n_isKept n_seenStation n_seenOther n_seenWide n_seenWas n_sines n_at n_column n_gram n_right n_work v_thrown v_textSize v_place v_stations v_readStations v_doings v_seen v_seed v_wide v_up v_low r_sines r_column r_gram r_right r_work r_p1)) (va_runV (As := [.ref n_p1, .int x9, .int x3]) (rest := [.long x4]) ⟨hx, hb, hml, hown, hts⟩ (m_X6_isTiedLeg l dC dI k H.size n_t n_p1 n_text n_readPage n_page n_trial n_book n_kept n_isKept n_seenStation n_seenOther n_seenWide n_seenWas n_sines n_at n_column n_gram n_right n_work v_thrown v_textSize v_place v_stations v_readStations v_doings v_seen v_seed v_wide v_up v_low r_p1 x9 x3 e20) (cwV 3 hts gX6_laySquares_X6_isTiedLeg rfl rfl rfl (by decide +kernel) ⟨Nat.le_of_ble_eq_true rfl, Nat.le_of_ble_eq_true rfl⟩) (g_preV hG hP hD hS hA [0, 6] rfl (by decide) (ci := 6) (q0 := 0) rfl rfl) rfl rfl hl.1 rfl (lv_room (Nat.le_of_ble_eq_true rfl)) dX6_laySquares_71 ⟨Nat.le_of_ble_eq_true rfl, Nat.le_of_ble_eq_true rfl⟩) hP hD hS hA [0, 6] [1, 2, 3, 4, 5] [5, 0, 1, 2, 3, 4, 6] rfl rfl (by decide) (by decide) rfl (by decide) (fun H locs hP hD hS => ?_)
              refine lv_if_eq (tgt := 88) hx hb dX6_laySquares_74 (by decide) (fun c21 => ?_) (fun c21 => ?_)
              · replace hm := ifp c21 hm
                exact J_88 _ _ _ _ _ _ _ _ _ _ _ _ _ _ _ _ (lv_sub hl [1, 2, 3, 4, 6, 7, 8] rfl) hP hD hS hm
              · replace hm := ifn c21 hm
                refine lv_lload hx hb dX6_laySquares_77 (lv_at hl 6 rfl) ?_
                refine lv_lload hx hb dX6_laySquares_79 (lv_at hl 0 rfl) ?_
                refine lv_lmul hx hb dX6_laySquares_81 ?_
                refine lv_lload hx hb dX6_laySquares_82 (lv_at hl 0 rfl) ?_
                refine lv_lmul hx hb dX6_laySquares_84 ?_
                refine lv_goto (tgt := 89) hx hb dX6_laySquares_85 (by decide) ?_
                exact J_89 _ _ _ _ _ _ _ _ _ _ _ _ _ _ _ _ _ (lv_sub hl [1, 2, 3, 4, 6, 7, 8] rfl) hP hD hS hm
      intro v_wide v_up v_low r_column r_gram r_right r_work x2 x3 x4 x6 x8 H locs ls hl hP hD hS hm
      replace hm : f_X6_laySquares_B9 F r_sines r_p1 (f_X6_laySquares_L9 F r_sines r_p1 n9) v_wide v_up v_low r_column r_gram r_right r_work x2 x3 x4 x6 x8 = some (o_v_wide, o_v_up, o_v_low, o_r_column, o_r_gram, o_r_right, o_r_work) := hm
      unfold f_X6_laySquares_B9 at hm
      refine lv_iload hx hb dX6_laySquares_9 (lv_at hl 6 rfl) ?_
      refine lv_iconst (v := (3 : Int32)) hx hb dX6_laySquares_11 (by decide) ?_
      refine lv_icmp_ge (tgt := 141) hx hb dX6_laySquares_12 (by decide) (fun c22 => ?_) (fun c22 => ?_)
      · replace hm := ifp c22 hm
        refine lv_aload_n hx hb dX6_laySquares_141 rfl (lv_at hl 0 rfl) ?_
        refine lv_lload hx hb dX6_laySquares_142 (lv_at hl 4 rfl) ?_
        refine lv_lload hx hb dX6_laySquares_144 (lv_at hl 5 rfl) ?_
        obtain ⟨w23, w24, e25, hm⟩ := bnd2_some hm
        refine g_callv (w2 := (wd_33317f k n_t n_p1 n_text n_readPage n_page n_trial n_book n_kept n_isKept n_seenStation n_seenOther n_seenWide n_seenWas n_sines n_at n_column n_gram n_right n_work v_thrown v_textSize v_place v_stations v_readStations v_doings v_seen v_seed v_wide w23 w24 r_sines r_column r_gram r_right r_work r_p1)) (va_runV (As := [.long x4, .long x6]) (rest := []) ⟨hx, hb, hml, hown, hts⟩ (m_X6_layFraction l dC dI k F H.size n_t n_text n_readPage n_page n_trial n_book n_kept n_isKept n_seenStation n_seenOther n_seenWide n_seenWas n_sines n_at n_column n_gram n_right n_work v_thrown v_textSize v_place v_stations v_readStations v_doings v_seen v_seed v_wide v_up v_low x4 x6 e25) (cwV 2 hts gX6_laySquares_X6_layFraction rfl rfl rfl (by decide +kernel) ⟨Nat.le_of_ble_eq_true rfl, Nat.le_of_ble_eq_true rfl⟩) (g_preV hG hP hD hS hA [0] rfl (by decide) (ci := 6) (q0 := 0) rfl rfl) rfl rfl hl.1 rfl (lv_room (Nat.le_of_ble_eq_true rfl)) dX6_laySquares_146 ⟨Nat.le_of_ble_eq_true rfl, Nat.le_of_ble_eq_true rfl⟩) hP hD hS hA [0] [1, 2, 3, 4, 5, 6] [6, 0, 1, 2, 3, 4, 5] rfl rfl (by decide) (by decide) rfl (by decide) (fun H locs hP hD hS => ?_)
        exact RET _ _ _ _ _ _ _ _ _ _ _ dX6_laySquares_149 hm hP hD hS
      · replace hm := ifn c22 hm
        refine lv_aload_n hx hb dX6_laySquares_15 rfl (lv_at hl 0 rfl) ?_
        refine lv_aload_n hx hb dX6_laySquares_16 rfl (lv_at hl 1 rfl) ?_
        refine lv_iload_n hx hb dX6_laySquares_17 rfl (lv_at hl 2 rfl) ?_
        refine lv_iload_n hx hb dX6_laySquares_18 rfl (lv_at hl 3 rfl) ?_
        refine lv_iload hx hb dX6_laySquares_19 (lv_at hl 6 rfl) ?_
        obtain ⟨w26, w27, w28, w29, e30, hm⟩ := bnd4_some hm
        refine g_callv (w2 := (wd_33317f k n_t n_p1 n_text n_readPage n_page n_trial n_book n_kept n_isKept n_seenStation n_seenOther n_seenWide n_seenWas n_sines n_at n_column n_gram n_right n_work v_thrown v_textSize v_place v_stations v_readStations v_doings v_seen v_seed w26 v_up v_low r_sines w27 w28 w29 r_work r_p1)) (va_runV (As := [.ref n_p1, .int x2, .int x3, .int x8]) (rest := []) ⟨hx, hb, hml, hown, hts⟩ (m_X6_layGram l dC dI k F H.size n_t n_p1 n_text n_readPage n_page n_trial n_book n_kept n_isKept n_seenStation n_seenOther n_seenWide n_seenWas n_sines n_at n_column n_gram n_right n_work v_thrown v_textSize v_place v_stations v_readStations v_doings v_seen v_seed v_wide v_up v_low r_sines r_column r_gram r_right r_p1 x2 x3 x8 e30) (cwV 4 hts gX6_laySquares_X6_layGram rfl rfl rfl (by decide +kernel) ⟨Nat.le_of_ble_eq_true rfl, Nat.le_of_ble_eq_true rfl⟩) (g_preV hG hP hD hS hA [0, 1, 2, 3, 4, 6] rfl (by decide) (ci := 6) (q0 := 0) rfl rfl) rfl rfl hl.1 rfl (lv_room (Nat.le_of_ble_eq_true rfl)) dX6_laySquares_21 ⟨Nat.le_of_ble_eq_true rfl, Nat.le_of_ble_eq_true rfl⟩) hP hD hS hA [0, 1, 2, 3, 4, 6] [5] [1, 2, 3, 4, 5, 0, 6] rfl rfl (by decide) (by decide) rfl (by decide) (fun H locs hP hD hS => ?_)
        refine lv_aload_n hx hb dX6_laySquares_24 rfl (lv_at hl 0 rfl) ?_
        refine lv_bipush (v := (-9 : Int32)) hx hb dX6_laySquares_25 (by decide) ?_
        obtain ⟨r31, w32, e33, hm⟩ := bnd2_some hm
        refine g_calll (w2 := (wd_33317f k n_t n_p1 n_text n_readPage n_page n_trial n_book n_kept n_isKept n_seenStation n_seenOther n_seenWide n_seenWas n_sines n_at n_column n_gram n_right n_work v_thrown v_textSize v_place v_stations v_readStations v_doings v_seen v_seed w26 v_up v_low r_sines w27 w28 w29 w32 r_p1)) (va_runV (As := [.int (-9 : Int32)]) (rest := []) ⟨hx, hb, hml, hown, hts⟩ (m_X6_determinant l dC dI k F H.size n_t n_text n_readPage n_page n_trial n_book n_kept n_isKept n_seenStation n_seenOther n_seenWide n_seenWas n_sines n_at n_column n_gram n_right n_work v_thrown v_textSize v_place v_stations v_readStations v_doings v_seen v_seed w26 v_up v_low w28 w29 r_work (-9 : Int32) e33) (cwV 1 hts gX6_laySquares_X6_determinant rfl rfl rfl (by decide +kernel) ⟨Nat.le_of_ble_eq_true rfl, Nat.le_of_ble_eq_true rfl⟩) (g_preV hG hP hD hS hA [0, 3, 4, 5] rfl (by decide) (ci := 6) (q0 := 0) rfl rfl) rfl rfl hl.1 rfl (lv_room (Nat.le_of_ble_eq_true rfl)) dX6_laySquares_27 ⟨Nat.le_of_ble_eq_true rfl, Nat.le_of_ble_eq_true rfl⟩) hP hD hS hA [0, 3, 4, 5] [1, 2, 6] [3, 0, 1, 4, 5, 6, 2] rfl rfl (by decide) (by decide) rfl (by decide) (fun H locs hP hD hS => ?_)
        refine lv_lstore (lv' := [(6, .long r31), (0, .ref n_t), (1, .ref n_p1), (2, .int x2), (3, .int x3), (4, .long x4), (8, .int x8)]) hx hb dX6_laySquares_30 hl (by decide) rfl (fun ls hl => ?_)
        refine lv_iconst (v := (0 : Int32)) hx hb dX6_laySquares_32 (by decide) ?_
        refine lv_istore (lv' := [(9, .int (0 : Int32)), (6, .long r31), (0, .ref n_t), (1, .ref n_p1), (2, .int x2), (3, .int x3), (4, .long x4), (8, .int x8)]) hx hb dX6_laySquares_33 hl (by decide) rfl (fun ls hl => ?_)
        exact L_35 F _ _ _ _ _ _ _ _ _ _ _ _ _ _ _ _ (lv_sub hl [2, 3, 4, 5, 6, 1, 7, 0] rfl) hP hD hS hm
  unfold f_X6_laySquares at hm
  refine lv_lconst (v := (0 : Int64)) hx hb dX6_laySquares_0 (by decide) ?_
  refine lv_lstore (lv' := [(4, .long (0 : Int64)), (0, .ref n_t), (1, .ref n_p1), (2, .int x2), (3, .int x3)]) hx hb dX6_laySquares_1 hl (by decide) rfl (fun ls hl => ?_)
  refine lv_lconst (v := (1 : Int64)) hx hb dX6_laySquares_3 (by decide) ?_
  refine lv_lstore (lv' := [(6, .long (1 : Int64)), (4, .long (0 : Int64)), (0, .ref n_t), (1, .ref n_p1), (2, .int x2), (3, .int x3)]) hx hb dX6_laySquares_4 hl (by decide) rfl (fun ls hl => ?_)
  refine lv_iconst (v := (0 : Int32)) hx hb dX6_laySquares_6 (by decide) ?_
  refine lv_istore (lv' := [(8, .int (0 : Int32)), (6, .long (1 : Int64)), (4, .long (0 : Int64)), (0, .ref n_t), (1, .ref n_p1), (2, .int x2), (3, .int x3)]) hx hb dX6_laySquares_7 hl (by decide) rfl (fun ls hl => ?_)
  exact L_9 F _ _ _ _ _ _ _ _ _ _ _ _ _ _ _ (lv_sub hl [3, 4, 5, 6, 2, 1, 0] rfl) hP hD hS hm
set_option maxRecDepth 100000 in
theorem m_X6_laySquares (l : Launch) (dC : Nat → ClassId) (dI : Nat → Nat → Nat) (k : Nat → ClassId) (F : Nat) (sz : Nat) (n_t n_p1 n_text n_readPage n_page n_trial n_book n_kept n_isKept n_seenStation n_seenOther n_seenWide n_seenWas n_sines n_at n_column n_gram n_right n_work : Nat) (v_thrown : Int32) (v_textSize : Int32) (v_place : Int32) (v_stations : Int32) (v_readStations : Int32) (v_doings : Int32) (v_seen : Int32) (v_seed : Int64) (v_wide : Int32) (v_up : Int64) (v_low : Int64) (r_sines : Nat → Int32) (r_column : Nat → Int32) (r_gram : Nat → Int64) (r_right : Nat → Int64) (r_work : Nat → Int64) (r_p1 : Nat → Int32) (x2 : Int32) (x3 : Int32) {o_v_wide : (Int32)} {o_v_up : (Int64)} {o_v_low : (Int64)} {o_r_column : (Nat → Int32)} {o_r_gram : (Nat → Int64)} {o_r_right : (Nat → Int64)} {o_r_work : (Nat → Int64)} (hm : f_X6_laySquares F x2 x3 v_wide v_up v_low r_sines r_column r_gram r_right r_work r_p1 = some (o_v_wide, o_v_up, o_v_low, o_r_column, o_r_gram, o_r_right, o_r_work)) : Met l yX6_laySquares wsX6_laySquares rm_X6_laySquares (gPre dC dI k [.ref n_t, .ref n_p1, .int x2, .int x3] sz (wd_33317f k n_t n_p1 n_text n_readPage n_page n_trial n_book n_kept n_isKept n_seenStation n_seenOther n_seenWide n_seenWas n_sines n_at n_column n_gram n_right n_work v_thrown v_textSize v_place v_stations v_readStations v_doings v_seen v_seed v_wide v_up v_low r_sines r_column r_gram r_right r_work r_p1)) (gQV dC dI (va_A (wd_33317f k n_t n_p1 n_text n_readPage n_page n_trial n_book n_kept n_isKept n_seenStation n_seenOther n_seenWide n_seenWas n_sines n_at n_column n_gram n_right n_work v_thrown v_textSize v_place v_stations v_readStations v_doings v_seen v_seed v_wide v_up v_low r_sines r_column r_gram r_right r_work r_p1) sz) (wd_33317f k n_t n_p1 n_text n_readPage n_page n_trial n_book n_kept n_isKept n_seenStation n_seenOther n_seenWide n_seenWas n_sines n_at n_column n_gram n_right n_work v_thrown v_textSize v_place v_stations v_readStations v_doings v_seen v_seed o_v_wide o_v_up o_v_low r_sines o_r_column o_r_gram o_r_right o_r_work r_p1)) 0 0 (va_A (wd_33317f k n_t n_p1 n_text n_readPage n_page n_trial n_book n_kept n_isKept n_seenStation n_seenOther n_seenWide n_seenWas n_sines n_at n_column n_gram n_right n_work v_thrown v_textSize v_place v_stations v_readStations v_doings v_seen v_seed v_wide v_up v_low r_sines r_column r_gram r_right r_work r_p1) sz) := by
  refine g_entry (cc := cX6_laySquares) (maxL := 12) (ret := none) (lv := [(0, .ref n_t), (1, .ref n_p1), (2, .int x2), (3, .int x3)]) (by decide +kernel) rfl (Nat.le_of_ble_eq_true rfl) rfl (fun p e s m below meth c ls hx hb hr hml hts hown hlk hnm hsz hG hA hP hD hS hl => ?_)
  exact k_X6_laySquares hx hb hml hts hown hG hA F n_t n_p1 n_text n_readPage n_page n_trial n_book n_kept n_isKept n_seenStation n_seenOther n_seenWide n_seenWas n_sines n_at n_column n_gram n_right n_work v_thrown v_textSize v_place v_stations v_readStations v_doings v_seen v_seed v_wide v_up v_low r_sines r_column r_gram r_right r_work r_p1 x2 x3 o_v_wide o_v_up o_v_low o_r_column o_r_gram o_r_right o_r_work (fun pc H locs ls q_v_wide q_v_up q_v_low q_r_column q_r_gram q_r_right q_r_work hd ho hP hD hS => by cases ho; exact g_vret hx hb hr hlk hP hD hS hd) s.heap [] ls hl hP hD hS hm
end
