section
set_option maxHeartbeats 4000000 in
set_option maxRecDepth 100000 in
theorem k_X5_write {p : Program} {l : Launch} {e : Env} {s : State} {m : MethodId} {args : Array Value} {below : List Frame} {meth : Method} {c : Code} {A : Nat → Prop} {Q : State → Prop} {dC : Nat → ClassId} {dI : Nat → Nat → Nat} {k : Nat → ClassId} (hx : p.tables.exec = Jvm.exec) (hb : c.code = cX5_write) (hml : c.maxLocals = 2) (hts : ∀ w ∈ wsX5_write, w.before args s = true) (hown : s.vm.findClass RX5 = some m.cls) (hG : gK dC dI k A s) (hA : ∀ q : Nat, s.heap.size ≤ q → A q) (n_t n_text n_now n_past n_slots n_sightings n_survey n_trial n_text_letters : Nat) (v_filledSlots : Int32) (v_seedNow : Int64) (v_text_length : Int32) (r_text_letters : Nat → Int32) (x1 : Int32) (o_r : Int32) (o_v_text_length : (Int32)) (o_r_text_letters : (Nat → Int32)) (RET : ∀ (pc : Nat) (H : Heap) (locs : List Loc) (ls : Array Slot) (v : Int32) (q_v_text_length : Int32) (q_r_text_letters : Nat → Int32), decode cX5_write pc = .ok (.ireturn, 1) → some (v, q_v_text_length, q_r_text_letters) = some (o_r, o_v_text_length, o_r_text_letters) → va_P (dC, dI) vwCl (wd_d87422 k n_t n_text n_now n_past n_slots n_sightings n_survey n_trial n_text_letters v_filledSlots v_seedNow q_v_text_length q_r_text_letters) H → va_D A (wd_d87422 k n_t n_text n_now n_past n_slots n_sightings n_survey n_trial n_text_letters v_filledSlots v_seedNow q_v_text_length q_r_text_letters) → va_S A s.heap H locs → W p l e rm_X5_write s m args below meth c H locs 0 0 Q (F0 m pc ls [.int v])) (H : Heap) (locs : List Loc) (ls : Array Slot) (hl : lv_has ls 2 [(0, .ref n_t), (1, .int x1)]) (hP : va_P (dC, dI) vwCl (wd_d87422 k n_t n_text n_now n_past n_slots n_sightings n_survey n_trial n_text_letters v_filledSlots v_seedNow v_text_length r_text_letters) H) (hD : va_D A (wd_d87422 k n_t n_text n_now n_past n_slots n_sightings n_survey n_trial n_text_letters v_filledSlots v_seedNow v_text_length r_text_letters)) (hS : va_S A s.heap H locs) (hm : f_X5_write x1 v_text_length r_text_letters = some (o_r, o_v_text_length, o_r_text_letters)) : W p l e rm_X5_write s m args below meth c H locs 0 0 Q (F0 m 0 ls []) := by
  have hinX4 : ∀ w ∈ u_ws RX4 TX4 2, w ∈ wsX5_write := by decide +kernel
  have hinX5 : ∀ w ∈ u_ws RX5 TX5 9, w ∈ wsX5_write := by decide +kernel
  have k0 := hts (.fieldLink RX5 10 "CaveLegs" "text" "LCaveLegs$Text;") (by decide +kernel)
  have k1 := hts (.fieldLink RX5 55 "CaveLegs$Text" "length" "I") (by decide +kernel)
  unfold f_X5_write at hm
  refine lv_iload_n hx hb dX5_write_0 rfl (lv_at hl 1 rfl) ?_
  refine lv_if_lt (tgt := 11) hx hb dX5_write_1 (by decide) (fun c1 => ?_) (fun c1 => ?_)
  · replace hm := ifp c1 hm
    refine lv_bipush (v := (-2 : Int32)) hx hb dX5_write_11 (by decide) ?_
    exact RET _ _ _ _ _ _ _ dX5_write_13 hm hP hD hS
  · replace hm := ifn c1 hm
    refine lv_iload_n hx hb dX5_write_4 rfl (lv_at hl 1 rfl) ?_
    refine lv_sipush (v := (255 : Int32)) hx hb dX5_write_5 (by decide) ?_
    refine lv_icmp_le (tgt := 14) hx hb dX5_write_8 (by decide) (fun c2 => ?_) (fun c2 => ?_)
    · replace hm := ifp c2 hm
      refine lv_aload_n hx hb dX5_write_14 rfl (lv_at hl 0 rfl) ?_
      refine va_get (D := (dC, dI)) (ci := 5) (v := .ref n_text) (C := RX5) (T := TX5) (N := 9) hx hb hts hinX5 hown hG.1 hP 0 rfl rfl 0 (by decide) k0 (fun _ h9 => h9) rfl dX5_write_15 ?_
      refine lv_iload_n hx hb dX5_write_18 rfl (lv_at hl 1 rfl) ?_
      refine g_i2c hx hb dX5_write_19 ?_
      obtain ⟨r3, w4, w5, e6, hm⟩ := bnd3_some hm
      refine g_calli (w2 := (wd_d87422 k n_t n_text n_now n_past n_slots n_sightings n_survey n_trial n_text_letters v_filledSlots v_seedNow w4 w5)) (va_runV (As := [.int (i2cI x1)]) (rest := []) ⟨hx, hb, hml, hown, hts⟩ (m_X4_append l dC dI k H.size n_text n_text_letters v_text_length r_text_letters (i2cI x1) e6) (cwV 1 hts gX5_write_X4_append rfl rfl rfl (by decide +kernel) ⟨Nat.le_of_ble_eq_true rfl, Nat.le_of_ble_eq_true rfl⟩) (g_preV hG hP hD hS hA [1, 2] rfl (by decide) (ci := 4) (q0 := 1) rfl rfl) rfl rfl hl.1 rfl (lv_room (Nat.le_of_ble_eq_true rfl)) dX5_write_20 ⟨Nat.le_of_ble_eq_true rfl, Nat.le_of_ble_eq_true rfl⟩) hP hD hS hA [1, 2] [0] [0, 1, 2] rfl rfl (by decide) (by decide) rfl (by decide) (fun H locs hP hD hS => ?_)
      refine lv_if_eq (tgt := 36) hx hb dX5_write_23 (by decide) (fun c7 => ?_) (fun c7 => ?_)
      · replace hm := ifp c7 hm
        refine lv_bipush (v := (-4 : Int32)) hx hb dX5_write_36 (by decide) ?_
        exact RET _ _ _ _ _ _ _ dX5_write_38 hm hP hD hS
      · replace hm := ifn c7 hm
        refine lv_aload_n hx hb dX5_write_26 rfl (lv_at hl 0 rfl) ?_
        refine va_get (D := (dC, dI)) (ci := 5) (v := .ref n_text) (C := RX5) (T := TX5) (N := 9) hx hb hts hinX5 hown hG.1 hP 0 rfl rfl 0 (by decide) k0 (fun _ h9 => h9) rfl dX5_write_27 ?_
        refine va_get (D := (dC, dI)) (ci := 4) (v := .int w4) (C := RX4) (T := TX4) (N := 2) hx hb hts hinX4 hown hG.1 hP 1 rfl rfl 1 (by decide) k1 (fun _ h9 => h9) rfl dX5_write_30 ?_
        refine lv_goto (tgt := 38) hx hb dX5_write_33 (by decide) ?_
        exact RET _ _ _ _ _ _ _ dX5_write_38 hm hP hD hS
    · replace hm := ifn c2 hm
      refine lv_bipush (v := (-2 : Int32)) hx hb dX5_write_11 (by decide) ?_
      exact RET _ _ _ _ _ _ _ dX5_write_13 hm hP hD hS
set_option maxRecDepth 100000 in
theorem m_X5_write (l : Launch) (dC : Nat → ClassId) (dI : Nat → Nat → Nat) (k : Nat → ClassId) (sz : Nat) (n_t n_text n_now n_past n_slots n_sightings n_survey n_trial n_text_letters : Nat) (v_filledSlots : Int32) (v_seedNow : Int64) (v_text_length : Int32) (r_text_letters : Nat → Int32) (x1 : Int32) {o_r : Int32} {o_v_text_length : (Int32)} {o_r_text_letters : (Nat → Int32)} (hm : f_X5_write x1 v_text_length r_text_letters = some (o_r, o_v_text_length, o_r_text_letters)) : Met l yX5_write wsX5_write rm_X5_write (gPre dC dI k [.ref n_t, .int x1] sz (wd_d87422 k n_t n_text n_now n_past n_slots n_sightings n_survey n_trial n_text_letters v_filledSlots v_seedNow v_text_length r_text_letters)) (gQI dC dI (va_A (wd_d87422 k n_t n_text n_now n_past n_slots n_sightings n_survey n_trial n_text_letters v_filledSlots v_seedNow v_text_length r_text_letters) sz) o_r (wd_d87422 k n_t n_text n_now n_past n_slots n_sightings n_survey n_trial n_text_letters v_filledSlots v_seedNow o_v_text_length o_r_text_letters)) 0 0 (va_A (wd_d87422 k n_t n_text n_now n_past n_slots n_sightings n_survey n_trial n_text_letters v_filledSlots v_seedNow v_text_length r_text_letters) sz) := by
  refine g_entry (cc := cX5_write) (maxL := 2) (ret := (some .int)) (lv := [(0, .ref n_t), (1, .int x1)]) (by decide +kernel) rfl (Nat.le_of_ble_eq_true rfl) rfl (fun p e s m below meth c ls hx hb hr hml hts hown hlk hnm hsz hG hA hP hD hS hl => ?_)
  exact k_X5_write hx hb hml hts hown hG hA n_t n_text n_now n_past n_slots n_sightings n_survey n_trial n_text_letters v_filledSlots v_seedNow v_text_length r_text_letters x1 o_r o_v_text_length o_r_text_letters (fun pc H locs ls v q_v_text_length q_r_text_letters hd ho hP hD hS => by cases ho; exact g_ireti hx hb hr hlk hP hD hS hd) s.heap [] ls hl hP hD hS hm
end
section
set_option maxHeartbeats 4000000 in
set_option maxRecDepth 100000 in
theorem k_X5_wipe {p : Program} {l : Launch} {e : Env} {s : State} {m : MethodId} {args : Array Value} {below : List Frame} {meth : Method} {c : Code} {A : Nat → Prop} {Q : State → Prop} {dC : Nat → ClassId} {dI : Nat → Nat → Nat} {k : Nat → ClassId} (hx : p.tables.exec = Jvm.exec) (hb : c.code = cX5_wipe) (hml : c.maxLocals = 2) (hts : ∀ w ∈ wsX5_wipe, w.before args s = true) (hown : s.vm.findClass RX5 = some m.cls) (hG : gK dC dI k A s) (hA : ∀ q : Nat, s.heap.size ≤ q → A q) (n_t n_text n_now n_past n_slots n_sightings n_survey n_trial n_text_letters : Nat) (v_filledSlots : Int32) (v_seedNow : Int64) (v_text_length : Int32) (o_r : Int32) (o_v_text_length : (Int32)) (RET : ∀ (pc : Nat) (H : Heap) (locs : List Loc) (ls : Array Slot) (v : Int32) (q_v_text_length : Int32), decode cX5_wipe pc = .ok (.ireturn, 1) → some (v, q_v_text_length) = some (o_r, o_v_text_length) → va_P (dC, dI) vwCl (wd_e0a708 k n_t n_text n_now n_past n_slots n_sightings n_survey n_trial n_text_letters v_filledSlots v_seedNow q_v_text_length) H → va_D A (wd_e0a708 k n_t n_text n_now n_past n_slots n_sightings n_survey n_trial n_text_letters v_filledSlots v_seedNow q_v_text_length) → va_S A s.heap H locs → W p l e rm_X5_wipe s m args below meth c H locs 0 0 Q (F0 m pc ls [.int v])) (H : Heap) (locs : List Loc) (ls : Array Slot) (hl : lv_has ls 2 [(0, .ref n_t)]) (hP : va_P (dC, dI) vwCl (wd_e0a708 k n_t n_text n_now n_past n_slots n_sightings n_survey n_trial n_text_letters v_filledSlots v_seedNow v_text_length) H) (hD : va_D A (wd_e0a708 k n_t n_text n_now n_past n_slots n_sightings n_survey n_trial n_text_letters v_filledSlots v_seedNow v_text_length)) (hS : va_S A s.heap H locs) (hm : f_X5_wipe v_text_length = some (o_r, o_v_text_length)) : W p l e rm_X5_wipe s m args below meth c H locs 0 0 Q (F0 m 0 ls []) := by
  have hinX4 : ∀ w ∈ u_ws RX4 TX4 2, w ∈ wsX5_wipe := by decide +kernel
  have hinX5 : ∀ w ∈ u_ws RX5 TX5 9, w ∈ wsX5_wipe := by decide +kernel
  have k0 := hts (.fieldLink RX5 10 "CaveLegs" "text" "LCaveLegs$Text;") (by decide +kernel)
  have k1 := hts (.fieldLink RX5 55 "CaveLegs$Text" "length" "I") (by decide +kernel)
  unfold f_X5_wipe at hm
  refine lv_aload_n hx hb dX5_wipe_0 rfl (lv_at hl 0 rfl) ?_
  refine va_get (D := (dC, dI)) (ci := 5) (v := .ref n_text) (C := RX5) (T := TX5) (N := 9) hx hb hts hinX5 hown hG.1 hP 0 rfl rfl 0 (by decide) k0 (fun _ h9 => h9) rfl dX5_wipe_1 ?_
  refine va_get (D := (dC, dI)) (ci := 4) (v := .int v_text_length) (C := RX4) (T := TX4) (N := 2) hx hb hts hinX4 hown hG.1 hP 1 rfl rfl 1 (by decide) k1 (fun _ h9 => h9) rfl dX5_wipe_4 ?_
  refine lv_istore_n (lv' := [(1, .int v_text_length), (0, .ref n_t)]) hx hb dX5_wipe_7 rfl hl (by decide) rfl (fun ls hl => ?_)
  refine lv_aload_n hx hb dX5_wipe_8 rfl (lv_at hl 1 rfl) ?_
  refine va_get (D := (dC, dI)) (ci := 5) (v := .ref n_text) (C := RX5) (T := TX5) (N := 9) hx hb hts hinX5 hown hG.1 hP 0 rfl rfl 0 (by decide) k0 (fun _ h9 => h9) rfl dX5_wipe_9 ?_
  refine lv_iconst (v := (0 : Int32)) hx hb dX5_wipe_12 (by decide) ?_
  refine va_put (D := (dC, dI)) (ci := 4) (v := .int (0 : Int32)) (ty := .int) (C := RX4) (T := TX4) (N := 2) hx hb hts hinX4 tyX4 tyX4_ok nmX4 hown hG.1 hP hD hS 1 rfl rfl 1 (by decide) k1 (fun _ h9 => h9) rfl (by decide +kernel) rfl rfl (Nat.le_of_ble_eq_true rfl) dX5_wipe_13 (fun H locs hP hD hS => ?_)
  replace hP : va_P (dC, dI) vwCl (wd_e0a708 k n_t n_text n_now n_past n_slots n_sightings n_survey n_trial n_text_letters v_filledSlots v_seedNow (0 : Int32)) H := hP
  replace hD : va_D A (wd_e0a708 k n_t n_text n_now n_past n_slots n_sightings n_survey n_trial n_text_letters v_filledSlots v_seedNow (0 : Int32)) := hD
  refine lv_iload_n hx hb dX5_wipe_16 rfl (lv_at hl 0 rfl) ?_
  exact RET _ _ _ _ _ _ dX5_wipe_17 hm hP hD hS
set_option maxRecDepth 100000 in
theorem m_X5_wipe (l : Launch) (dC : Nat → ClassId) (dI : Nat → Nat → Nat) (k : Nat → ClassId) (sz : Nat) (n_t n_text n_now n_past n_slots n_sightings n_survey n_trial n_text_letters : Nat) (v_filledSlots : Int32) (v_seedNow : Int64) (v_text_length : Int32) {o_r : Int32} {o_v_text_length : (Int32)} (hm : f_X5_wipe v_text_length = some (o_r, o_v_text_length)) : Met l yX5_wipe wsX5_wipe rm_X5_wipe (gPre dC dI k [.ref n_t] sz (wd_e0a708 k n_t n_text n_now n_past n_slots n_sightings n_survey n_trial n_text_letters v_filledSlots v_seedNow v_text_length)) (gQI dC dI (va_A (wd_e0a708 k n_t n_text n_now n_past n_slots n_sightings n_survey n_trial n_text_letters v_filledSlots v_seedNow v_text_length) sz) o_r (wd_e0a708 k n_t n_text n_now n_past n_slots n_sightings n_survey n_trial n_text_letters v_filledSlots v_seedNow o_v_text_length)) 0 0 (va_A (wd_e0a708 k n_t n_text n_now n_past n_slots n_sightings n_survey n_trial n_text_letters v_filledSlots v_seedNow v_text_length) sz) := by
  refine g_entry (cc := cX5_wipe) (maxL := 2) (ret := (some .int)) (lv := [(0, .ref n_t)]) (by decide +kernel) rfl (Nat.le_of_ble_eq_true rfl) rfl (fun p e s m below meth c ls hx hb hr hml hts hown hlk hnm hsz hG hA hP hD hS hl => ?_)
  exact k_X5_wipe hx hb hml hts hown hG hA n_t n_text n_now n_past n_slots n_sightings n_survey n_trial n_text_letters v_filledSlots v_seedNow v_text_length o_r o_v_text_length (fun pc H locs ls v q_v_text_length hd ho hP hD hS => by cases ho; exact g_ireti hx hb hr hlk hP hD hS hd) s.heap [] ls hl hP hD hS hm
end
section
set_option maxHeartbeats 4000000 in
set_option maxRecDepth 100000 in
theorem k_X5_fault {p : Program} {l : Launch} {e : Env} {s : State} {m : MethodId} {args : Array Value} {below : List Frame} {meth : Method} {c : Code} {A : Nat → Prop} {Q : State → Prop} {dC : Nat → ClassId} {dI : Nat → Nat → Nat} {k : Nat → ClassId} (hx : p.tables.exec = Jvm.exec) (hb : c.code = cX5_fault) (hml : c.maxLocals = 1) (hts : ∀ w ∈ wsX5_fault, w.before args s = true) (hown : s.vm.findClass RX5 = some m.cls) (hG : gK dC dI k A s) (hA : ∀ q : Nat, s.heap.size ≤ q → A q) (F : Nat) (n_t n_text n_now n_past n_slots n_sightings n_survey n_trial n_text_letters : Nat) (v_filledSlots : Int32) (v_seedNow : Int64) (v_text_length : Int32) (r_text_letters : Nat → Int32) (o_r : Int32) (RET : ∀ (pc : Nat) (H : Heap) (locs : List Loc) (ls : Array Slot) (v : Int32), decode cX5_fault pc = .ok (.ireturn, 1) → some v = some o_r → va_P (dC, dI) vwCl (wd_d87422 k n_t n_text n_now n_past n_slots n_sightings n_survey n_trial n_text_letters v_filledSlots v_seedNow v_text_length r_text_letters) H → va_D A (wd_d87422 k n_t n_text n_now n_past n_slots n_sightings n_survey n_trial n_text_letters v_filledSlots v_seedNow v_text_length r_text_letters) → va_S A s.heap H locs → W p l e rm_X5_fault s m args below meth c H locs 0 0 Q (F0 m pc ls [.int v])) (H : Heap) (locs : List Loc) (ls : Array Slot) (hl : lv_has ls 1 [(0, .ref n_t)]) (hP : va_P (dC, dI) vwCl (wd_d87422 k n_t n_text n_now n_past n_slots n_sightings n_survey n_trial n_text_letters v_filledSlots v_seedNow v_text_length r_text_letters) H) (hD : va_D A (wd_d87422 k n_t n_text n_now n_past n_slots n_sightings n_survey n_trial n_text_letters v_filledSlots v_seedNow v_text_length r_text_letters)) (hS : va_S A s.heap H locs) (hm : f_X5_fault F v_text_length r_text_letters = some o_r) : W p l e rm_X5_fault s m args below meth c H locs 0 0 Q (F0 m 0 ls []) := by
  have hinX5 : ∀ w ∈ u_ws RX5 TX5 9, w ∈ wsX5_fault := by decide +kernel
  have k0 := hts (.fieldLink RX5 10 "CaveLegs" "text" "LCaveLegs$Text;") (by decide +kernel)
  unfold f_X5_fault at hm
  refine lv_aload_n hx hb dX5_fault_0 rfl (lv_at hl 0 rfl) ?_
  refine va_get (D := (dC, dI)) (ci := 5) (v := .ref n_text) (C := RX5) (T := TX5) (N := 9) hx hb hts hinX5 hown hG.1 hP 0 rfl rfl 0 (by decide) k0 (fun _ h9 => h9) rfl dX5_fault_1 ?_
  obtain ⟨r1, e2, hm⟩ := bnd1_some hm
  refine g_calli (w2 := (wd_d87422 k n_t n_text n_now n_past n_slots n_sightings n_survey n_trial n_text_letters v_filledSlots v_seedNow v_text_length r_text_letters)) (va_runV (As := []) (rest := []) ⟨hx, hb, hml, hown, hts⟩ (m_X4_errorAt l dC dI k F H.size n_text n_text_letters v_text_length r_text_letters  e2) (cwV 0 hts gX5_fault_X4_errorAt rfl rfl rfl (by decide +kernel) ⟨Nat.le_of_ble_eq_true rfl, Nat.le_of_ble_eq_true rfl⟩) (g_preV hG hP hD hS hA [1, 2] rfl (by decide) (ci := 4) (q0 := 1) rfl rfl) rfl rfl hl.1 rfl (lv_room (Nat.le_of_ble_eq_true rfl)) dX5_fault_4 ⟨Nat.le_of_ble_eq_true rfl, Nat.le_of_ble_eq_true rfl⟩) hP hD hS hA [1, 2] [0] [0, 1, 2] rfl rfl (by decide) (by decide) rfl (by decide) (fun H locs hP hD hS => ?_)
  exact RET _ _ _ _ _ dX5_fault_7 hm hP hD hS
set_option maxRecDepth 100000 in
theorem m_X5_fault (l : Launch) (dC : Nat → ClassId) (dI : Nat → Nat → Nat) (k : Nat → ClassId) (F : Nat) (sz : Nat) (n_t n_text n_now n_past n_slots n_sightings n_survey n_trial n_text_letters : Nat) (v_filledSlots : Int32) (v_seedNow : Int64) (v_text_length : Int32) (r_text_letters : Nat → Int32) {o_r : Int32} (hm : f_X5_fault F v_text_length r_text_letters = some o_r) : Met l yX5_fault wsX5_fault rm_X5_fault (gPre dC dI k [.ref n_t] sz (wd_d87422 k n_t n_text n_now n_past n_slots n_sightings n_survey n_trial n_text_letters v_filledSlots v_seedNow v_text_length r_text_letters)) (gQI dC dI (va_A (wd_d87422 k n_t n_text n_now n_past n_slots n_sightings n_survey n_trial n_text_letters v_filledSlots v_seedNow v_text_length r_text_letters) sz) o_r (wd_d87422 k n_t n_text n_now n_past n_slots n_sightings n_survey n_trial n_text_letters v_filledSlots v_seedNow v_text_length r_text_letters)) 0 0 (va_A (wd_d87422 k n_t n_text n_now n_past n_slots n_sightings n_survey n_trial n_text_letters v_filledSlots v_seedNow v_text_length r_text_letters) sz) := by
  refine g_entry (cc := cX5_fault) (maxL := 1) (ret := (some .int)) (lv := [(0, .ref n_t)]) (by decide +kernel) rfl (Nat.le_of_ble_eq_true rfl) rfl (fun p e s m below meth c ls hx hb hr hml hts hown hlk hnm hsz hG hA hP hD hS hl => ?_)
  exact k_X5_fault hx hb hml hts hown hG hA F n_t n_text n_now n_past n_slots n_sightings n_survey n_trial n_text_letters v_filledSlots v_seedNow v_text_length r_text_letters o_r (fun pc H locs ls v hd ho hP hD hS => by cases ho; exact g_ireti hx hb hr hlk hP hD hS hd) s.heap [] ls hl hP hD hS hm
end
section
set_option maxHeartbeats 4000000 in
set_option maxRecDepth 100000 in
theorem k_X5_cave {p : Program} {l : Launch} {e : Env} {s : State} {m : MethodId} {args : Array Value} {below : List Frame} {meth : Method} {c : Code} {A : Nat → Prop} {Q : State → Prop} {dC : Nat → ClassId} {dI : Nat → Nat → Nat} {k : Nat → ClassId} (hx : p.tables.exec = Jvm.exec) (hb : c.code = cX5_cave) (hml : c.maxLocals = 1) (hts : ∀ w ∈ wsX5_cave, w.before args s = true) (hown : s.vm.findClass RX5 = some m.cls) (hG : gK dC dI k A s) (hA : ∀ q : Nat, s.heap.size ≤ q → A q) (F : Nat) (n_t n_text n_now n_past n_slots n_sightings n_survey n_trial n_text_letters n_now_rows n_past_ring : Nat) (v_filledSlots : Int32) (v_seedNow : Int64) (v_text_length : Int32) (v_now_size : Int32) (v_now_stations : Int32) (v_past_next : Int32) (v_past_depth : Int32) (r_text_letters : Nat → Int32) (r_now_rows : Nat → Int32) (o_r : Int32) (o_v_filledSlots : (Int32)) (o_v_now_size : (Int32)) (o_v_now_stations : (Int32)) (o_r_now_rows : (Nat → Int32)) (o_v_past_depth : (Int32)) (RET : ∀ (pc : Nat) (H : Heap) (locs : List Loc) (ls : Array Slot) (v : Int32) (q_v_filledSlots : Int32) (q_v_now_size : Int32) (q_v_now_stations : Int32) (q_r_now_rows : Nat → Int32) (q_v_past_depth : Int32), decode cX5_cave pc = .ok (.ireturn, 1) → some (v, q_v_filledSlots, q_v_now_size, q_v_now_stations, q_r_now_rows, q_v_past_depth) = some (o_r, o_v_filledSlots, o_v_now_size, o_v_now_stations, o_r_now_rows, o_v_past_depth) → va_P (dC, dI) vwCl (wd_8556c1 k n_t n_text n_now n_past n_slots n_sightings n_survey n_trial n_text_letters n_now_rows n_past_ring q_v_filledSlots v_seedNow v_text_length q_v_now_size q_v_now_stations v_past_next q_v_past_depth r_text_letters q_r_now_rows) H → va_D A (wd_8556c1 k n_t n_text n_now n_past n_slots n_sightings n_survey n_trial n_text_letters n_now_rows n_past_ring q_v_filledSlots v_seedNow v_text_length q_v_now_size q_v_now_stations v_past_next q_v_past_depth r_text_letters q_r_now_rows) → va_S A s.heap H locs → W p l e rm_X5_cave s m args below meth c H locs 0 0 Q (F0 m pc ls [.int v])) (H : Heap) (locs : List Loc) (ls : Array Slot) (hl : lv_has ls 1 [(0, .ref n_t)]) (hP : va_P (dC, dI) vwCl (wd_8556c1 k n_t n_text n_now n_past n_slots n_sightings n_survey n_trial n_text_letters n_now_rows n_past_ring v_filledSlots v_seedNow v_text_length v_now_size v_now_stations v_past_next v_past_depth r_text_letters r_now_rows) H) (hD : va_D A (wd_8556c1 k n_t n_text n_now n_past n_slots n_sightings n_survey n_trial n_text_letters n_now_rows n_past_ring v_filledSlots v_seedNow v_text_length v_now_size v_now_stations v_past_next v_past_depth r_text_letters r_now_rows)) (hS : va_S A s.heap H locs) (hm : f_X5_cave F v_filledSlots v_text_length r_text_letters v_now_size v_now_stations r_now_rows v_past_depth = some (o_r, o_v_filledSlots, o_v_now_size, o_v_now_stations, o_r_now_rows, o_v_past_depth)) : W p l e rm_X5_cave s m args below meth c H locs 0 0 Q (F0 m 0 ls []) := by
  have hinX0 : ∀ w ∈ u_ws RX0 TX0 3, w ∈ wsX5_cave := by decide +kernel
  have hinX5 : ∀ w ∈ u_ws RX5 TX5 9, w ∈ wsX5_cave := by decide +kernel
  have k0 := hts (.fieldLink RX5 10 "CaveLegs" "text" "LCaveLegs$Text;") (by decide +kernel)
  have k1 := hts (.fieldLink RX5 19 "CaveLegs" "now" "LCaveLegs$Legs;") (by decide +kernel)
  have k2 := hts (.fieldLink RX5 26 "CaveLegs" "past" "LCaveLegs$Past;") (by decide +kernel)
  have k3 := hts (.fieldLink RX5 70 "CaveLegs" "filledSlots" "I") (by decide +kernel)
  have k4 := hts (.fieldLink RX5 73 "CaveLegs$Legs" "size" "I") (by decide +kernel)
  unfold f_X5_cave at hm
  refine lv_aload_n hx hb dX5_cave_0 rfl (lv_at hl 0 rfl) ?_
  refine va_get (D := (dC, dI)) (ci := 5) (v := .ref n_text) (C := RX5) (T := TX5) (N := 9) hx hb hts hinX5 hown hG.1 hP 0 rfl rfl 0 (by decide) k0 (fun _ h9 => h9) rfl dX5_cave_1 ?_
  obtain ⟨r1, e2, hm⟩ := bnd1_some hm
  refine g_calli (w2 := (wd_8556c1 k n_t n_text n_now n_past n_slots n_sightings n_survey n_trial n_text_letters n_now_rows n_past_ring v_filledSlots v_seedNow v_text_length v_now_size v_now_stations v_past_next v_past_depth r_text_letters r_now_rows)) (va_runV (As := []) (rest := []) ⟨hx, hb, hml, hown, hts⟩ (m_X4_errorAt l dC dI k F H.size n_text n_text_letters v_text_length r_text_letters  e2) (cwV 0 hts gX5_cave_X4_errorAt rfl rfl rfl (by decide +kernel) ⟨Nat.le_of_ble_eq_true rfl, Nat.le_of_ble_eq_true rfl⟩) (g_preV hG hP hD hS hA [1, 2] rfl (by decide) (ci := 4) (q0 := 1) rfl rfl) rfl rfl hl.1 rfl (lv_room (Nat.le_of_ble_eq_true rfl)) dX5_cave_4 ⟨Nat.le_of_ble_eq_true rfl, Nat.le_of_ble_eq_true rfl⟩) hP hD hS hA [1, 2] [0, 3, 4, 5] [0, 4, 5, 1, 2, 3] rfl rfl (by decide) (by decide) rfl (by decide) (fun H locs hP hD hS => ?_)
  refine lv_bipush (v := (-9 : Int32)) hx hb dX5_cave_7 (by decide) ?_
  refine lv_icmp_eq (tgt := 15) hx hb dX5_cave_9 (by decide) (fun c3 => ?_) (fun c3 => ?_)
  · replace hm := ifp c3 hm
    refine lv_aload_n hx hb dX5_cave_15 rfl (lv_at hl 0 rfl) ?_
    refine va_get (D := (dC, dI)) (ci := 5) (v := .ref n_text) (C := RX5) (T := TX5) (N := 9) hx hb hts hinX5 hown hG.1 hP 0 rfl rfl 0 (by decide) k0 (fun _ h9 => h9) rfl dX5_cave_16 ?_
    refine lv_aload_n hx hb dX5_cave_19 rfl (lv_at hl 0 rfl) ?_
    refine va_get (D := (dC, dI)) (ci := 5) (v := .ref n_now) (C := RX5) (T := TX5) (N := 9) hx hb hts hinX5 hown hG.1 hP 0 rfl rfl 1 (by decide) k1 (fun _ h9 => h9) rfl dX5_cave_20 ?_
    obtain ⟨w4, w5, w6, e7, hm⟩ := bnd3_some hm
    refine g_callv (w2 := (wd_8556c1 k n_t n_text n_now n_past n_slots n_sightings n_survey n_trial n_text_letters n_now_rows n_past_ring v_filledSlots v_seedNow v_text_length w4 w5 v_past_next v_past_depth r_text_letters w6)) (va_runV (As := [.ref n_now]) (rest := []) ⟨hx, hb, hml, hown, hts⟩ (m_X4_describe l dC dI k F H.size n_text n_now n_text_letters n_now_rows v_text_length v_now_size v_now_stations r_text_letters r_now_rows  e7) (cwV 1 hts gX5_cave_X4_describe rfl rfl rfl (by decide +kernel) ⟨Nat.le_of_ble_eq_true rfl, Nat.le_of_ble_eq_true rfl⟩) (g_preV hG hP hD hS hA [1, 2, 3, 4] rfl (by decide) (ci := 4) (q0 := 1) rfl rfl) rfl rfl hl.1 rfl (lv_room (Nat.le_of_ble_eq_true rfl)) dX5_cave_23 ⟨Nat.le_of_ble_eq_true rfl, Nat.le_of_ble_eq_true rfl⟩) hP hD hS hA [1, 2, 3, 4] [0, 5] [0, 2, 3, 4, 5, 1] rfl rfl (by decide) (by decide) rfl (by decide) (fun H locs hP hD hS => ?_)
    refine lv_aload_n hx hb dX5_cave_26 rfl (lv_at hl 0 rfl) ?_
    refine va_get (D := (dC, dI)) (ci := 5) (v := .ref n_past) (C := RX5) (T := TX5) (N := 9) hx hb hts hinX5 hown hG.1 hP 0 rfl rfl 2 (by decide) k2 (fun _ h9 => h9) rfl dX5_cave_27 ?_
    obtain ⟨w8, e9, hm⟩ := bnd1_some hm
    refine g_callv (w2 := (wd_8556c1 k n_t n_text n_now n_past n_slots n_sightings n_survey n_trial n_text_letters n_now_rows n_past_ring v_filledSlots v_seedNow v_text_length w4 w5 v_past_next w8 r_text_letters w6)) (va_runV (As := []) (rest := []) ⟨hx, hb, hml, hown, hts⟩ (m_X1_forget l dC dI k H.size n_past n_past_ring v_past_next v_past_depth  e9) (cwV 0 hts gX5_cave_X1_forget rfl rfl rfl (by decide +kernel) ⟨Nat.le_of_ble_eq_true rfl, Nat.le_of_ble_eq_true rfl⟩) (g_preV hG hP hD hS hA [5] rfl (by decide) (ci := 1) (q0 := 5) rfl rfl) rfl rfl hl.1 rfl (lv_room (Nat.le_of_ble_eq_true rfl)) dX5_cave_30 ⟨Nat.le_of_ble_eq_true rfl, Nat.le_of_ble_eq_true rfl⟩) hP hD hS hA [5] [0, 1, 2, 3, 4] [0, 1, 2, 3, 4, 5] rfl rfl (by decide) (by decide) rfl (by decide) (fun H locs hP hD hS => ?_)
    refine lv_aload_n hx hb dX5_cave_33 rfl (lv_at hl 0 rfl) ?_
    refine lv_iconst (v := (0 : Int32)) hx hb dX5_cave_34 (by decide) ?_
    refine va_put (D := (dC, dI)) (ci := 5) (v := .int (0 : Int32)) (ty := .int) (C := RX5) (T := TX5) (N := 9) hx hb hts hinX5 tyX5 tyX5_ok nmX5 hown hG.1 hP hD hS 0 rfl rfl 7 (by decide) k3 (fun _ h9 => h9) rfl (by decide +kernel) rfl rfl (Nat.le_of_ble_eq_true rfl) dX5_cave_35 (fun H locs hP hD hS => ?_)
    replace hP : va_P (dC, dI) vwCl (wd_8556c1 k n_t n_text n_now n_past n_slots n_sightings n_survey n_trial n_text_letters n_now_rows n_past_ring (0 : Int32) v_seedNow v_text_length w4 w5 v_past_next w8 r_text_letters w6) H := hP
    replace hD : va_D A (wd_8556c1 k n_t n_text n_now n_past n_slots n_sightings n_survey n_trial n_text_letters n_now_rows n_past_ring (0 : Int32) v_seedNow v_text_length w4 w5 v_past_next w8 r_text_letters w6) := hD
    refine lv_aload_n hx hb dX5_cave_38 rfl (lv_at hl 0 rfl) ?_
    refine va_get (D := (dC, dI)) (ci := 5) (v := .ref n_now) (C := RX5) (T := TX5) (N := 9) hx hb hts hinX5 hown hG.1 hP 0 rfl rfl 1 (by decide) k1 (fun _ h9 => h9) rfl dX5_cave_39 ?_
    refine va_get (D := (dC, dI)) (ci := 0) (v := .int w4) (C := RX0) (T := TX0) (N := 3) hx hb hts hinX0 hown hG.1 hP 3 rfl rfl 1 (by decide) k4 (fun _ h9 => h9) rfl dX5_cave_42 ?_
    exact RET _ _ _ _ _ _ _ _ _ _ dX5_cave_45 hm hP hD hS
  · replace hm := ifn c3 hm
    refine lv_bipush (v := (-3 : Int32)) hx hb dX5_cave_12 (by decide) ?_
    exact RET _ _ _ _ _ _ _ _ _ _ dX5_cave_14 hm hP hD hS
set_option maxRecDepth 100000 in
theorem m_X5_cave (l : Launch) (dC : Nat → ClassId) (dI : Nat → Nat → Nat) (k : Nat → ClassId) (F : Nat) (sz : Nat) (n_t n_text n_now n_past n_slots n_sightings n_survey n_trial n_text_letters n_now_rows n_past_ring : Nat) (v_filledSlots : Int32) (v_seedNow : Int64) (v_text_length : Int32) (v_now_size : Int32) (v_now_stations : Int32) (v_past_next : Int32) (v_past_depth : Int32) (r_text_letters : Nat → Int32) (r_now_rows : Nat → Int32) {o_r : Int32} {o_v_filledSlots : (Int32)} {o_v_now_size : (Int32)} {o_v_now_stations : (Int32)} {o_r_now_rows : (Nat → Int32)} {o_v_past_depth : (Int32)} (hm : f_X5_cave F v_filledSlots v_text_length r_text_letters v_now_size v_now_stations r_now_rows v_past_depth = some (o_r, o_v_filledSlots, o_v_now_size, o_v_now_stations, o_r_now_rows, o_v_past_depth)) : Met l yX5_cave wsX5_cave rm_X5_cave (gPre dC dI k [.ref n_t] sz (wd_8556c1 k n_t n_text n_now n_past n_slots n_sightings n_survey n_trial n_text_letters n_now_rows n_past_ring v_filledSlots v_seedNow v_text_length v_now_size v_now_stations v_past_next v_past_depth r_text_letters r_now_rows)) (gQI dC dI (va_A (wd_8556c1 k n_t n_text n_now n_past n_slots n_sightings n_survey n_trial n_text_letters n_now_rows n_past_ring v_filledSlots v_seedNow v_text_length v_now_size v_now_stations v_past_next v_past_depth r_text_letters r_now_rows) sz) o_r (wd_8556c1 k n_t n_text n_now n_past n_slots n_sightings n_survey n_trial n_text_letters n_now_rows n_past_ring o_v_filledSlots v_seedNow v_text_length o_v_now_size o_v_now_stations v_past_next o_v_past_depth r_text_letters o_r_now_rows)) 0 0 (va_A (wd_8556c1 k n_t n_text n_now n_past n_slots n_sightings n_survey n_trial n_text_letters n_now_rows n_past_ring v_filledSlots v_seedNow v_text_length v_now_size v_now_stations v_past_next v_past_depth r_text_letters r_now_rows) sz) := by
  refine g_entry (cc := cX5_cave) (maxL := 1) (ret := (some .int)) (lv := [(0, .ref n_t)]) (by decide +kernel) rfl (Nat.le_of_ble_eq_true rfl) rfl (fun p e s m below meth c ls hx hb hr hml hts hown hlk hnm hsz hG hA hP hD hS hl => ?_)
  exact k_X5_cave hx hb hml hts hown hG hA F n_t n_text n_now n_past n_slots n_sightings n_survey n_trial n_text_letters n_now_rows n_past_ring v_filledSlots v_seedNow v_text_length v_now_size v_now_stations v_past_next v_past_depth r_text_letters r_now_rows o_r o_v_filledSlots o_v_now_size o_v_now_stations o_r_now_rows o_v_past_depth (fun pc H locs ls v q_v_filledSlots q_v_now_size q_v_now_stations q_r_now_rows q_v_past_depth hd ho hP hD hS => by cases ho; exact g_ireti hx hb hr hlk hP hD hS hd) s.heap [] ls hl hP hD hS hm
end
section
set_option maxHeartbeats 4000000 in
set_option maxRecDepth 100000 in
theorem k_X5_leg {p : Program} {l : Launch} {e : Env} {s : State} {m : MethodId} {args : Array Value} {below : List Frame} {meth : Method} {c : Code} {A : Nat → Prop} {Q : State → Prop} {dC : Nat → ClassId} {dI : Nat → Nat → Nat} {k : Nat → ClassId} (hx : p.tables.exec = Jvm.exec) (hb : c.code = cX5_leg) (hml : c.maxLocals = 3) (hts : ∀ w ∈ wsX5_leg, w.before args s = true) (hown : s.vm.findClass RX5 = some m.cls) (hG : gK dC dI k A s) (hA : ∀ q : Nat, s.heap.size ≤ q → A q) (n_t n_text n_now n_past n_slots n_sightings n_survey n_trial n_now_rows : Nat) (v_filledSlots : Int32) (v_seedNow : Int64) (v_now_size : Int32) (v_now_stations : Int32) (r_now_rows : Nat → Int32) (x1 : Int32) (x2 : Int32) (o_r : Int32) (RET : ∀ (pc : Nat) (H : Heap) (locs : List Loc) (ls : Array Slot) (v : Int32), decode cX5_leg pc = .ok (.ireturn, 1) → some v = some o_r → va_P (dC, dI) vwCl (wd_4273f5 k n_t n_text n_now n_past n_slots n_sightings n_survey n_trial n_now_rows v_filledSlots v_seedNow v_now_size v_now_stations r_now_rows) H → va_D A (wd_4273f5 k n_t n_text n_now n_past n_slots n_sightings n_survey n_trial n_now_rows v_filledSlots v_seedNow v_now_size v_now_stations r_now_rows) → va_S A s.heap H locs → W p l e rm_X5_leg s m args below meth c H locs 0 0 Q (F0 m pc ls [.int v])) (H : Heap) (locs : List Loc) (ls : Array Slot) (hl : lv_has ls 3 [(0, .ref n_t), (1, .int x1), (2, .int x2)]) (hP : va_P (dC, dI) vwCl (wd_4273f5 k n_t n_text n_now n_past n_slots n_sightings n_survey n_trial n_now_rows v_filledSlots v_seedNow v_now_size v_now_stations r_now_rows) H) (hD : va_D A (wd_4273f5 k n_t n_text n_now n_past n_slots n_sightings n_survey n_trial n_now_rows v_filledSlots v_seedNow v_now_size v_now_stations r_now_rows)) (hS : va_S A s.heap H locs) (hm : f_X5_leg x1 x2 v_now_size r_now_rows = some o_r) : W p l e rm_X5_leg s m args below meth c H locs 0 0 Q (F0 m 0 ls []) := by
  have hinX5 : ∀ w ∈ u_ws RX5 TX5 9, w ∈ wsX5_leg := by decide +kernel
  have k0 := hts (.fieldLink RX5 19 "CaveLegs" "now" "LCaveLegs$Legs;") (by decide +kernel)
  unfold f_X5_leg at hm
  refine lv_aload_n hx hb dX5_leg_0 rfl (lv_at hl 0 rfl) ?_
  refine va_get (D := (dC, dI)) (ci := 5) (v := .ref n_now) (C := RX5) (T := TX5) (N := 9) hx hb hts hinX5 hown hG.1 hP 0 rfl rfl 1 (by decide) k0 (fun _ h9 => h9) rfl dX5_leg_1 ?_
  refine lv_iload_n hx hb dX5_leg_4 rfl (lv_at hl 1 rfl) ?_
  obtain ⟨r1, e2, hm⟩ := bnd1_some hm
  refine g_calli (w2 := (wd_4273f5 k n_t n_text n_now n_past n_slots n_sightings n_survey n_trial n_now_rows v_filledSlots v_seedNow v_now_size v_now_stations r_now_rows)) (va_runV (As := [.int x1]) (rest := []) ⟨hx, hb, hml, hown, hts⟩ (m_X0_has l dC dI k H.size n_now n_now_rows v_now_size v_now_stations x1 e2) (cwV 1 hts gX5_leg_X0_has rfl rfl rfl (by decide +kernel) ⟨Nat.le_of_ble_eq_true rfl, Nat.le_of_ble_eq_true rfl⟩) (g_preV hG hP hD hS hA [1] rfl (by decide) (ci := 0) (q0 := 1) rfl rfl) rfl rfl hl.1 rfl (lv_room (Nat.le_of_ble_eq_true rfl)) dX5_leg_5 ⟨Nat.le_of_ble_eq_true rfl, Nat.le_of_ble_eq_true rfl⟩) hP hD hS hA [1] [0, 2] [0, 2, 1] rfl rfl (by decide) (by decide) rfl (by decide) (fun H locs hP hD hS => ?_)
  refine lv_if_ne (tgt := 13) hx hb dX5_leg_8 (by decide) (fun c3 => ?_) (fun c3 => ?_)
  · replace hm := ifn c3 hm
    refine lv_iload_n hx hb dX5_leg_13 rfl (lv_at hl 2 rfl) ?_
    refine lv_if_lt (tgt := 23) hx hb dX5_leg_14 (by decide) (fun c4 => ?_) (fun c4 => ?_)
    · replace hm := ifp c4 hm
      refine lv_bipush (v := (-2 : Int32)) hx hb dX5_leg_23 (by decide) ?_
      exact RET _ _ _ _ _ dX5_leg_25 hm hP hD hS
    · replace hm := ifn c4 hm
      refine lv_iload_n hx hb dX5_leg_17 rfl (lv_at hl 2 rfl) ?_
      refine lv_bipush (v := (10 : Int32)) hx hb dX5_leg_18 (by decide) ?_
      refine lv_icmp_lt (tgt := 26) hx hb dX5_leg_20 (by decide) (fun c5 => ?_) (fun c5 => ?_)
      · replace hm := ifp c5 hm
        refine lv_iload_n hx hb dX5_leg_26 rfl (lv_at hl 2 rfl) ?_
        refine lv_bipush (v := (7 : Int32)) hx hb dX5_leg_27 (by decide) ?_
        refine lv_icmp_ge (tgt := 44) hx hb dX5_leg_29 (by decide) (fun c6 => ?_) (fun c6 => ?_)
        · replace hm := ifp c6 hm
          refine lv_aload_n hx hb dX5_leg_44 rfl (lv_at hl 0 rfl) ?_
          refine va_get (D := (dC, dI)) (ci := 5) (v := .ref n_now) (C := RX5) (T := TX5) (N := 9) hx hb hts hinX5 hown hG.1 hP 0 rfl rfl 1 (by decide) k0 (fun _ h9 => h9) rfl dX5_leg_45 ?_
          refine lv_iload_n hx hb dX5_leg_48 rfl (lv_at hl 1 rfl) ?_
          refine lv_iload_n hx hb dX5_leg_49 rfl (lv_at hl 2 rfl) ?_
          refine lv_bipush (v := (7 : Int32)) hx hb dX5_leg_50 (by decide) ?_
          refine lv_isub hx hb dX5_leg_52 ?_
          obtain ⟨r7, e8, hm⟩ := bnd1_some hm
          refine g_calli (w2 := (wd_4273f5 k n_t n_text n_now n_past n_slots n_sightings n_survey n_trial n_now_rows v_filledSlots v_seedNow v_now_size v_now_stations r_now_rows)) (va_runV (As := [.int x1, .int (x2 - (7 : Int32))]) (rest := []) ⟨hx, hb, hml, hown, hts⟩ (m_X0_vector l dC dI k H.size n_now n_now_rows v_now_size v_now_stations r_now_rows x1 (x2 - (7 : Int32)) e8) (cwV 2 hts gX5_leg_X0_vector rfl rfl rfl (by decide +kernel) ⟨Nat.le_of_ble_eq_true rfl, Nat.le_of_ble_eq_true rfl⟩) (g_preV hG hP hD hS hA [1, 2] rfl (by decide) (ci := 0) (q0 := 1) rfl rfl) rfl rfl hl.1 rfl (lv_room (Nat.le_of_ble_eq_true rfl)) dX5_leg_53 ⟨Nat.le_of_ble_eq_true rfl, Nat.le_of_ble_eq_true rfl⟩) hP hD hS hA [1, 2] [0] [0, 1, 2] rfl rfl (by decide) (by decide) rfl (by decide) (fun H locs hP hD hS => ?_)
          refine lv_bipush (v := (100 : Int32)) hx hb dX5_leg_56 (by decide) ?_
          refine lv_iadd hx hb dX5_leg_58 ?_
          exact RET _ _ _ _ _ dX5_leg_59 hm hP hD hS
        · replace hm := ifn c6 hm
          refine lv_aload_n hx hb dX5_leg_32 rfl (lv_at hl 0 rfl) ?_
          refine va_get (D := (dC, dI)) (ci := 5) (v := .ref n_now) (C := RX5) (T := TX5) (N := 9) hx hb hts hinX5 hown hG.1 hP 0 rfl rfl 1 (by decide) k0 (fun _ h9 => h9) rfl dX5_leg_33 ?_
          refine lv_iload_n hx hb dX5_leg_36 rfl (lv_at hl 1 rfl) ?_
          refine lv_iload_n hx hb dX5_leg_37 rfl (lv_at hl 2 rfl) ?_
          obtain ⟨r9, e10, hm⟩ := bnd1_some hm
          refine g_calli (w2 := (wd_4273f5 k n_t n_text n_now n_past n_slots n_sightings n_survey n_trial n_now_rows v_filledSlots v_seedNow v_now_size v_now_stations r_now_rows)) (va_runV (As := [.int x1, .int x2]) (rest := []) ⟨hx, hb, hml, hown, hts⟩ (m_X0_get l dC dI k H.size n_now n_now_rows v_now_size v_now_stations r_now_rows x1 x2 e10) (cwV 2 hts gX5_leg_X0_get rfl rfl rfl (by decide +kernel) ⟨Nat.le_of_ble_eq_true rfl, Nat.le_of_ble_eq_true rfl⟩) (g_preV hG hP hD hS hA [1, 2] rfl (by decide) (ci := 0) (q0 := 1) rfl rfl) rfl rfl hl.1 rfl (lv_room (Nat.le_of_ble_eq_true rfl)) dX5_leg_38 ⟨Nat.le_of_ble_eq_true rfl, Nat.le_of_ble_eq_true rfl⟩) hP hD hS hA [1, 2] [0] [0, 1, 2] rfl rfl (by decide) (by decide) rfl (by decide) (fun H locs hP hD hS => ?_)
          refine lv_goto (tgt := 59) hx hb dX5_leg_41 (by decide) ?_
          exact RET _ _ _ _ _ dX5_leg_59 hm hP hD hS
      · replace hm := ifn c5 hm
        refine lv_bipush (v := (-2 : Int32)) hx hb dX5_leg_23 (by decide) ?_
        exact RET _ _ _ _ _ dX5_leg_25 hm hP hD hS
  · replace hm := ifp c3 hm
    refine lv_iconst (v := (-1 : Int32)) hx hb dX5_leg_11 (by decide) ?_
    exact RET _ _ _ _ _ dX5_leg_12 hm hP hD hS
set_option maxRecDepth 100000 in
theorem m_X5_leg (l : Launch) (dC : Nat → ClassId) (dI : Nat → Nat → Nat) (k : Nat → ClassId) (sz : Nat) (n_t n_text n_now n_past n_slots n_sightings n_survey n_trial n_now_rows : Nat) (v_filledSlots : Int32) (v_seedNow : Int64) (v_now_size : Int32) (v_now_stations : Int32) (r_now_rows : Nat → Int32) (x1 : Int32) (x2 : Int32) {o_r : Int32} (hm : f_X5_leg x1 x2 v_now_size r_now_rows = some o_r) : Met l yX5_leg wsX5_leg rm_X5_leg (gPre dC dI k [.ref n_t, .int x1, .int x2] sz (wd_4273f5 k n_t n_text n_now n_past n_slots n_sightings n_survey n_trial n_now_rows v_filledSlots v_seedNow v_now_size v_now_stations r_now_rows)) (gQI dC dI (va_A (wd_4273f5 k n_t n_text n_now n_past n_slots n_sightings n_survey n_trial n_now_rows v_filledSlots v_seedNow v_now_size v_now_stations r_now_rows) sz) o_r (wd_4273f5 k n_t n_text n_now n_past n_slots n_sightings n_survey n_trial n_now_rows v_filledSlots v_seedNow v_now_size v_now_stations r_now_rows)) 0 0 (va_A (wd_4273f5 k n_t n_text n_now n_past n_slots n_sightings n_survey n_trial n_now_rows v_filledSlots v_seedNow v_now_size v_now_stations r_now_rows) sz) := by
  refine g_entry (cc := cX5_leg) (maxL := 3) (ret := (some .int)) (lv := [(0, .ref n_t), (1, .int x1), (2, .int x2)]) (by decide +kernel) rfl (Nat.le_of_ble_eq_true rfl) rfl (fun p e s m below meth c ls hx hb hr hml hts hown hlk hnm hsz hG hA hP hD hS hl => ?_)
  exact k_X5_leg hx hb hml hts hown hG hA n_t n_text n_now n_past n_slots n_sightings n_survey n_trial n_now_rows v_filledSlots v_seedNow v_now_size v_now_stations r_now_rows x1 x2 o_r (fun pc H locs ls v hd ho hP hD hS => by cases ho; exact g_ireti hx hb hr hlk hP hD hS hd) s.heap [] ls hl hP hD hS hm
end
section
set_option maxHeartbeats 4000000 in
set_option maxRecDepth 100000 in
theorem k_X5_stationError {p : Program} {l : Launch} {e : Env} {s : State} {m : MethodId} {args : Array Value} {below : List Frame} {meth : Method} {c : Code} {A : Nat → Prop} {Q : State → Prop} {dC : Nat → ClassId} {dI : Nat → Nat → Nat} {k : Nat → ClassId} (hx : p.tables.exec = Jvm.exec) (hb : c.code = cX5_stationError) (hml : c.maxLocals = 3) (hts : ∀ w ∈ wsX5_stationError, w.before args s = true) (hown : s.vm.findClass RX5 = some m.cls) (hG : gK dC dI k A s) (hA : ∀ q : Nat, s.heap.size ≤ q → A q) (F : Nat) (n_t n_text n_now n_past n_slots n_sightings n_survey n_trial n_now_rows : Nat) (v_filledSlots : Int32) (v_seedNow : Int64) (v_now_size : Int32) (v_now_stations : Int32) (r_now_rows : Nat → Int32) (x1 : Int32) (x2 : Int32) (o_r : Int32) (RET : ∀ (pc : Nat) (H : Heap) (locs : List Loc) (ls : Array Slot) (v : Int32), decode cX5_stationError pc = .ok (.ireturn, 1) → some v = some o_r → va_P (dC, dI) vwCl (wd_4273f5 k n_t n_text n_now n_past n_slots n_sightings n_survey n_trial n_now_rows v_filledSlots v_seedNow v_now_size v_now_stations r_now_rows) H → va_D A (wd_4273f5 k n_t n_text n_now n_past n_slots n_sightings n_survey n_trial n_now_rows v_filledSlots v_seedNow v_now_size v_now_stations r_now_rows) → va_S A s.heap H locs → W p l e rm_X5_stationError s m args below meth c H locs 0 0 Q (F0 m pc ls [.int v])) (H : Heap) (locs : List Loc) (ls : Array Slot) (hl : lv_has ls 3 [(0, .ref n_t), (1, .int x1), (2, .int x2)]) (hP : va_P (dC, dI) vwCl (wd_4273f5 k n_t n_text n_now n_past n_slots n_sightings n_survey n_trial n_now_rows v_filledSlots v_seedNow v_now_size v_now_stations r_now_rows) H) (hD : va_D A (wd_4273f5 k n_t n_text n_now n_past n_slots n_sightings n_survey n_trial n_now_rows v_filledSlots v_seedNow v_now_size v_now_stations r_now_rows)) (hS : va_S A s.heap H locs) (hm : f_X5_stationError F x1 x2 v_now_size v_now_stations r_now_rows = some o_r) : W p l e rm_X5_stationError s m args below meth c H locs 0 0 Q (F0 m 0 ls []) := by
  have hinX5 : ∀ w ∈ u_ws RX5 TX5 9, w ∈ wsX5_stationError := by decide +kernel
  have k0 := hts (.fieldLink RX5 19 "CaveLegs" "now" "LCaveLegs$Legs;") (by decide +kernel)
  unfold f_X5_stationError at hm
  refine lv_aload_n hx hb dX5_stationError_0 rfl (lv_at hl 0 rfl) ?_
  refine va_get (D := (dC, dI)) (ci := 5) (v := .ref n_now) (C := RX5) (T := TX5) (N := 9) hx hb hts hinX5 hown hG.1 hP 0 rfl rfl 1 (by decide) k0 (fun _ h9 => h9) rfl dX5_stationError_1 ?_
  refine lv_iload_n hx hb dX5_stationError_4 rfl (lv_at hl 1 rfl) ?_
  obtain ⟨r1, e2, hm⟩ := bnd1_some hm
  refine g_calli (w2 := (wd_4273f5 k n_t n_text n_now n_past n_slots n_sightings n_survey n_trial n_now_rows v_filledSlots v_seedNow v_now_size v_now_stations r_now_rows)) (va_runV (As := [.int x1]) (rest := []) ⟨hx, hb, hml, hown, hts⟩ (m_X0_hasStation l dC dI k H.size n_now n_now_rows v_now_size v_now_stations x1 e2) (cwV 1 hts gX5_stationError_X0_hasStation rfl rfl rfl (by decide +kernel) ⟨Nat.le_of_ble_eq_true rfl, Nat.le_of_ble_eq_true rfl⟩) (g_preV hG hP hD hS hA [1] rfl (by decide) (ci := 0) (q0 := 1) rfl rfl) rfl rfl hl.1 rfl (lv_room (Nat.le_of_ble_eq_true rfl)) dX5_stationError_5 ⟨Nat.le_of_ble_eq_true rfl, Nat.le_of_ble_eq_true rfl⟩) hP hD hS hA [1] [0, 2] [0, 2, 1] rfl rfl (by decide) (by decide) rfl (by decide) (fun H locs hP hD hS => ?_)
  refine lv_if_ne (tgt := 13) hx hb dX5_stationError_8 (by decide) (fun c3 => ?_) (fun c3 => ?_)
  · replace hm := ifn c3 hm
    refine lv_iload_n hx hb dX5_stationError_13 rfl (lv_at hl 2 rfl) ?_
    refine lv_if_lt (tgt := 22) hx hb dX5_stationError_14 (by decide) (fun c4 => ?_) (fun c4 => ?_)
    · replace hm := ifp c4 hm
      refine lv_bipush (v := (-2 : Int32)) hx hb dX5_stationError_22 (by decide) ?_
      exact RET _ _ _ _ _ dX5_stationError_24 hm hP hD hS
    · replace hm := ifn c4 hm
      refine lv_iload_n hx hb dX5_stationError_17 rfl (lv_at hl 2 rfl) ?_
      refine lv_iconst (v := (3 : Int32)) hx hb dX5_stationError_18 (by decide) ?_
      refine lv_icmp_lt (tgt := 25) hx hb dX5_stationError_19 (by decide) (fun c5 => ?_) (fun c5 => ?_)
      · replace hm := ifp c5 hm
        refine lv_aload_n hx hb dX5_stationError_25 rfl (lv_at hl 0 rfl) ?_
        refine va_get (D := (dC, dI)) (ci := 5) (v := .ref n_now) (C := RX5) (T := TX5) (N := 9) hx hb hts hinX5 hown hG.1 hP 0 rfl rfl 1 (by decide) k0 (fun _ h9 => h9) rfl dX5_stationError_26 ?_
        obtain ⟨r6, e7, hm⟩ := bnd1_some hm
        refine g_calli (w2 := (wd_4273f5 k n_t n_text n_now n_past n_slots n_sightings n_survey n_trial n_now_rows v_filledSlots v_seedNow v_now_size v_now_stations r_now_rows)) (va_runV (As := []) (rest := []) ⟨hx, hb, hml, hown, hts⟩ (m_X0_connected l dC dI k F H.size n_now n_now_rows v_now_size v_now_stations r_now_rows  e7) (cwV 0 hts gX5_stationError_X0_connected rfl rfl rfl (by decide +kernel) ⟨Nat.le_of_ble_eq_true rfl, Nat.le_of_ble_eq_true rfl⟩) (g_preV hG hP hD hS hA [1, 2] rfl (by decide) (ci := 0) (q0 := 1) rfl rfl) rfl rfl hl.1 rfl (lv_room (Nat.le_of_ble_eq_true rfl)) dX5_stationError_29 ⟨Nat.le_of_ble_eq_true rfl, Nat.le_of_ble_eq_true rfl⟩) hP hD hS hA [1, 2] [0] [0, 1, 2] rfl rfl (by decide) (by decide) rfl (by decide) (fun H locs hP hD hS => ?_)
        refine lv_iload_n hx hb dX5_stationError_32 rfl (lv_at hl 1 rfl) ?_
        obtain ⟨r8, e9, hm⟩ := bnd1_some hm
        refine g_calli (w2 := (wd_4273f5 k n_t n_text n_now n_past n_slots n_sightings n_survey n_trial n_now_rows v_filledSlots v_seedNow v_now_size v_now_stations r_now_rows)) (va_runS (As := [.int r6, .int x1]) (rest := []) ⟨hx, hb, hml, hown, hts⟩ (m_X5_holds l dC dI k H.size  r6 x1 e9) (va_cwS 2 hts gX5_stationError_X5_holds rfl rfl rfl (by decide +kernel) ⟨Nat.le_of_ble_eq_true rfl, Nat.le_of_ble_eq_true rfl⟩) (g_preS hG hP hD hS hA [] rfl (by decide)) rfl rfl hl.1 rfl (lv_room (Nat.le_of_ble_eq_true rfl)) dX5_stationError_33 ⟨Nat.le_of_ble_eq_true rfl, Nat.le_of_ble_eq_true rfl⟩) hP hD hS hA [] [0, 1, 2] [0, 1, 2] rfl rfl (by decide) (by decide) rfl (by decide) (fun H locs hP hD hS => ?_)
        refine lv_if_eq (tgt := 44) hx hb dX5_stationError_36 (by decide) (fun c10 => ?_) (fun c10 => ?_)
        · replace hm := ifp c10 hm
          refine lv_bipush (v := (-3 : Int32)) hx hb dX5_stationError_44 (by decide) ?_
          exact RET _ _ _ _ _ dX5_stationError_46 hm hP hD hS
        · replace hm := ifn c10 hm
          refine lv_bipush (v := (-9 : Int32)) hx hb dX5_stationError_39 (by decide) ?_
          refine lv_goto (tgt := 46) hx hb dX5_stationError_41 (by decide) ?_
          exact RET _ _ _ _ _ dX5_stationError_46 hm hP hD hS
      · replace hm := ifn c5 hm
        refine lv_bipush (v := (-2 : Int32)) hx hb dX5_stationError_22 (by decide) ?_
        exact RET _ _ _ _ _ dX5_stationError_24 hm hP hD hS
  · replace hm := ifp c3 hm
    refine lv_iconst (v := (-1 : Int32)) hx hb dX5_stationError_11 (by decide) ?_
    exact RET _ _ _ _ _ dX5_stationError_12 hm hP hD hS
set_option maxRecDepth 100000 in
theorem m_X5_stationError (l : Launch) (dC : Nat → ClassId) (dI : Nat → Nat → Nat) (k : Nat → ClassId) (F : Nat) (sz : Nat) (n_t n_text n_now n_past n_slots n_sightings n_survey n_trial n_now_rows : Nat) (v_filledSlots : Int32) (v_seedNow : Int64) (v_now_size : Int32) (v_now_stations : Int32) (r_now_rows : Nat → Int32) (x1 : Int32) (x2 : Int32) {o_r : Int32} (hm : f_X5_stationError F x1 x2 v_now_size v_now_stations r_now_rows = some o_r) : Met l yX5_stationError wsX5_stationError rm_X5_stationError (gPre dC dI k [.ref n_t, .int x1, .int x2] sz (wd_4273f5 k n_t n_text n_now n_past n_slots n_sightings n_survey n_trial n_now_rows v_filledSlots v_seedNow v_now_size v_now_stations r_now_rows)) (gQI dC dI (va_A (wd_4273f5 k n_t n_text n_now n_past n_slots n_sightings n_survey n_trial n_now_rows v_filledSlots v_seedNow v_now_size v_now_stations r_now_rows) sz) o_r (wd_4273f5 k n_t n_text n_now n_past n_slots n_sightings n_survey n_trial n_now_rows v_filledSlots v_seedNow v_now_size v_now_stations r_now_rows)) 0 0 (va_A (wd_4273f5 k n_t n_text n_now n_past n_slots n_sightings n_survey n_trial n_now_rows v_filledSlots v_seedNow v_now_size v_now_stations r_now_rows) sz) := by
  refine g_entry (cc := cX5_stationError) (maxL := 3) (ret := (some .int)) (lv := [(0, .ref n_t), (1, .int x1), (2, .int x2)]) (by decide +kernel) rfl (Nat.le_of_ble_eq_true rfl) rfl (fun p e s m below meth c ls hx hb hr hml hts hown hlk hnm hsz hG hA hP hD hS hl => ?_)
  exact k_X5_stationError hx hb hml hts hown hG hA F n_t n_text n_now n_past n_slots n_sightings n_survey n_trial n_now_rows v_filledSlots v_seedNow v_now_size v_now_stations r_now_rows x1 x2 o_r (fun pc H locs ls v hd ho hP hD hS => by cases ho; exact g_ireti hx hb hr hlk hP hD hS hd) s.heap [] ls hl hP hD hS hm
end
section
set_option maxHeartbeats 4000000 in
set_option maxRecDepth 100000 in
theorem k_X5_laid {p : Program} {l : Launch} {e : Env} {s : State} {m : MethodId} {args : Array Value} {below : List Frame} {meth : Method} {c : Code} {A : Nat → Prop} {Q : State → Prop} {dC : Nat → ClassId} {dI : Nat → Nat → Nat} {k : Nat → ClassId} (hx : p.tables.exec = Jvm.exec) (hb : c.code = cX5_laid) (hml : c.maxLocals = 4) (hts : ∀ w ∈ wsX5_laid, w.before args s = true) (hown : s.vm.findClass RX5 = some m.cls) (hG : gK dC dI k A s) (hA : ∀ q : Nat, s.heap.size ≤ q → A q) (F : Nat) (n_t n_text n_now n_past n_slots n_sightings n_survey n_trial n_now_rows n_survey_places n_survey_equations : Nat) (v_filledSlots : Int32) (v_seedNow : Int64) (v_now_size : Int32) (v_now_stations : Int32) (v_survey_divisor : Int64) (v_survey_squareSum : Int64) (r_now_rows : Nat → Int32) (r_survey_places : Nat → Int32) (x1 : Int32) (x2 : Int32) (o_r : Int32) (o_r_survey_places : (Nat → Int32)) (RET : ∀ (pc : Nat) (H : Heap) (locs : List Loc) (ls : Array Slot) (v : Int32) (q_r_survey_places : Nat → Int32), decode cX5_laid pc = .ok (.ireturn, 1) → some (v, q_r_survey_places) = some (o_r, o_r_survey_places) → va_P (dC, dI) vwCl (wd_d06339 k n_t n_text n_now n_past n_slots n_sightings n_survey n_trial n_now_rows n_survey_places n_survey_equations v_filledSlots v_seedNow v_now_size v_now_stations v_survey_divisor v_survey_squareSum r_now_rows q_r_survey_places) H → va_D A (wd_d06339 k n_t n_text n_now n_past n_slots n_sightings n_survey n_trial n_now_rows n_survey_places n_survey_equations v_filledSlots v_seedNow v_now_size v_now_stations v_survey_divisor v_survey_squareSum r_now_rows q_r_survey_places) → va_S A s.heap H locs → W p l e rm_X5_laid s m args below meth c H locs 0 0 Q (F0 m pc ls [.int v])) (H : Heap) (locs : List Loc) (ls : Array Slot) (hl : lv_has ls 4 [(0, .ref n_t), (1, .int x1), (2, .int x2)]) (hP : va_P (dC, dI) vwCl (wd_d06339 k n_t n_text n_now n_past n_slots n_sightings n_survey n_trial n_now_rows n_survey_places n_survey_equations v_filledSlots v_seedNow v_now_size v_now_stations v_survey_divisor v_survey_squareSum r_now_rows r_survey_places) H) (hD : va_D A (wd_d06339 k n_t n_text n_now n_past n_slots n_sightings n_survey n_trial n_now_rows n_survey_places n_survey_equations v_filledSlots v_seedNow v_now_size v_now_stations v_survey_divisor v_survey_squareSum r_now_rows r_survey_places)) (hS : va_S A s.heap H locs) (hm : f_X5_laid F x1 x2 v_now_size v_now_stations r_now_rows r_survey_places = some (o_r, o_r_survey_places)) : W p l e rm_X5_laid s m args below meth c H locs 0 0 Q (F0 m 0 ls []) := by
  have hinX5 : ∀ w ∈ u_ws RX5 TX5 9, w ∈ wsX5_laid := by decide +kernel
  have k0 := hts (.fieldLink RX5 44 "CaveLegs" "survey" "LCaveLegs$Survey;") (by decide +kernel)
  have k1 := hts (.fieldLink RX5 19 "CaveLegs" "now" "LCaveLegs$Legs;") (by decide +kernel)
  unfold f_X5_laid at hm
  refine lv_aload_n hx hb dX5_laid_0 rfl (lv_at hl 0 rfl) ?_
  refine lv_iload_n hx hb dX5_laid_1 rfl (lv_at hl 1 rfl) ?_
  refine lv_iload_n hx hb dX5_laid_2 rfl (lv_at hl 2 rfl) ?_
  obtain ⟨r1, e2, hm⟩ := bnd1_some hm
  refine g_calli (w2 := (wd_d06339 k n_t n_text n_now n_past n_slots n_sightings n_survey n_trial n_now_rows n_survey_places n_survey_equations v_filledSlots v_seedNow v_now_size v_now_stations v_survey_divisor v_survey_squareSum r_now_rows r_survey_places)) (va_runV (As := [.int x1, .int x2]) (rest := []) ⟨hx, hb, hml, hown, hts⟩ (m_X5_stationError l dC dI k F H.size n_t n_text n_now n_past n_slots n_sightings n_survey n_trial n_now_rows v_filledSlots v_seedNow v_now_size v_now_stations r_now_rows x1 x2 e2) (cwV 2 hts gX5_laid_X5_stationError rfl rfl rfl (by decide +kernel) ⟨Nat.le_of_ble_eq_true rfl, Nat.le_of_ble_eq_true rfl⟩) (g_preV hG hP hD hS hA [0, 1, 2] rfl (by decide) (ci := 5) (q0 := 0) rfl rfl) rfl rfl hl.1 rfl (lv_room (Nat.le_of_ble_eq_true rfl)) dX5_laid_3 ⟨Nat.le_of_ble_eq_true rfl, Nat.le_of_ble_eq_true rfl⟩) hP hD hS hA [0, 1, 2] [3, 4] [2, 3, 4, 0, 1] rfl rfl (by decide) (by decide) rfl (by decide) (fun H locs hP hD hS => ?_)
  refine lv_istore_n (lv' := [(3, .int r1), (0, .ref n_t), (1, .int x1), (2, .int x2)]) hx hb dX5_laid_6 rfl hl (by decide) rfl (fun ls hl => ?_)
  refine lv_iload_n hx hb dX5_laid_7 rfl (lv_at hl 0 rfl) ?_
  refine lv_bipush (v := (-9 : Int32)) hx hb dX5_laid_8 (by decide) ?_
  refine lv_icmp_eq (tgt := 15) hx hb dX5_laid_10 (by decide) (fun c3 => ?_) (fun c3 => ?_)
  · replace hm := ifp c3 hm
    refine lv_aload_n hx hb dX5_laid_15 rfl (lv_at hl 1 rfl) ?_
    refine va_get (D := (dC, dI)) (ci := 5) (v := .ref n_survey) (C := RX5) (T := TX5) (N := 9) hx hb hts hinX5 hown hG.1 hP 0 rfl rfl 5 (by decide) k0 (fun _ h9 => h9) rfl dX5_laid_16 ?_
    refine lv_aload_n hx hb dX5_laid_19 rfl (lv_at hl 1 rfl) ?_
    refine va_get (D := (dC, dI)) (ci := 5) (v := .ref n_now) (C := RX5) (T := TX5) (N := 9) hx hb hts hinX5 hown hG.1 hP 0 rfl rfl 1 (by decide) k1 (fun _ h9 => h9) rfl dX5_laid_20 ?_
    obtain ⟨w4, e5, hm⟩ := bnd1_some hm
    refine g_callv (w2 := (wd_d06339 k n_t n_text n_now n_past n_slots n_sightings n_survey n_trial n_now_rows n_survey_places n_survey_equations v_filledSlots v_seedNow v_now_size v_now_stations v_survey_divisor v_survey_squareSum r_now_rows w4)) (va_runV (As := [.ref n_now]) (rest := []) ⟨hx, hb, hml, hown, hts⟩ (m_X3_plot l dC dI k F H.size n_survey n_now n_survey_places n_survey_equations n_now_rows v_survey_divisor v_survey_squareSum v_now_size v_now_stations r_survey_places r_now_rows  e5) (cwV 1 hts gX5_laid_X3_plot rfl rfl rfl (by decide +kernel) ⟨Nat.le_of_ble_eq_true rfl, Nat.le_of_ble_eq_true rfl⟩) (g_preV hG hP hD hS hA [3, 4, 1, 2] rfl (by decide) (ci := 3) (q0 := 3) rfl rfl) rfl rfl hl.1 rfl (lv_room (Nat.le_of_ble_eq_true rfl)) dX5_laid_23 ⟨Nat.le_of_ble_eq_true rfl, Nat.le_of_ble_eq_true rfl⟩) hP hD hS hA [3, 4, 1, 2] [0] [0, 3, 4, 1, 2] rfl rfl (by decide) (by decide) rfl (by decide) (fun H locs hP hD hS => ?_)
    refine lv_aload_n hx hb dX5_laid_26 rfl (lv_at hl 1 rfl) ?_
    refine va_get (D := (dC, dI)) (ci := 5) (v := .ref n_survey) (C := RX5) (T := TX5) (N := 9) hx hb hts hinX5 hown hG.1 hP 0 rfl rfl 5 (by decide) k0 (fun _ h9 => h9) rfl dX5_laid_27 ?_
    refine lv_iload_n hx hb dX5_laid_30 rfl (lv_at hl 2 rfl) ?_
    refine lv_iload_n hx hb dX5_laid_31 rfl (lv_at hl 3 rfl) ?_
    obtain ⟨r6, e7, hm⟩ := bnd1_some hm
    refine g_calli (w2 := (wd_d06339 k n_t n_text n_now n_past n_slots n_sightings n_survey n_trial n_now_rows n_survey_places n_survey_equations v_filledSlots v_seedNow v_now_size v_now_stations v_survey_divisor v_survey_squareSum r_now_rows w4)) (va_runV (As := [.int x1, .int x2]) (rest := []) ⟨hx, hb, hml, hown, hts⟩ (m_X3_place l dC dI k H.size n_survey n_survey_places n_survey_equations v_survey_divisor v_survey_squareSum w4 x1 x2 e7) (cwV 2 hts gX5_laid_X3_place rfl rfl rfl (by decide +kernel) ⟨Nat.le_of_ble_eq_true rfl, Nat.le_of_ble_eq_true rfl⟩) (g_preV hG hP hD hS hA [3, 4] rfl (by decide) (ci := 3) (q0 := 3) rfl rfl) rfl rfl hl.1 rfl (lv_room (Nat.le_of_ble_eq_true rfl)) dX5_laid_32 ⟨Nat.le_of_ble_eq_true rfl, Nat.le_of_ble_eq_true rfl⟩) hP hD hS hA [3, 4] [0, 1, 2] [0, 1, 2, 3, 4] rfl rfl (by decide) (by decide) rfl (by decide) (fun H locs hP hD hS => ?_)
    refine lv_sipush (v := (1000 : Int32)) hx hb dX5_laid_35 (by decide) ?_
    refine lv_iadd hx hb dX5_laid_38 ?_
    exact RET _ _ _ _ _ _ dX5_laid_39 hm hP hD hS
  · replace hm := ifn c3 hm
    refine lv_iload_n hx hb dX5_laid_13 rfl (lv_at hl 0 rfl) ?_
    exact RET _ _ _ _ _ _ dX5_laid_14 hm hP hD hS
set_option maxRecDepth 100000 in
theorem m_X5_laid (l : Launch) (dC : Nat → ClassId) (dI : Nat → Nat → Nat) (k : Nat → ClassId) (F : Nat) (sz : Nat) (n_t n_text n_now n_past n_slots n_sightings n_survey n_trial n_now_rows n_survey_places n_survey_equations : Nat) (v_filledSlots : Int32) (v_seedNow : Int64) (v_now_size : Int32) (v_now_stations : Int32) (v_survey_divisor : Int64) (v_survey_squareSum : Int64) (r_now_rows : Nat → Int32) (r_survey_places : Nat → Int32) (x1 : Int32) (x2 : Int32) {o_r : Int32} {o_r_survey_places : (Nat → Int32)} (hm : f_X5_laid F x1 x2 v_now_size v_now_stations r_now_rows r_survey_places = some (o_r, o_r_survey_places)) : Met l yX5_laid wsX5_laid rm_X5_laid (gPre dC dI k [.ref n_t, .int x1, .int x2] sz (wd_d06339 k n_t n_text n_now n_past n_slots n_sightings n_survey n_trial n_now_rows n_survey_places n_survey_equations v_filledSlots v_seedNow v_now_size v_now_stations v_survey_divisor v_survey_squareSum r_now_rows r_survey_places)) (gQI dC dI (va_A (wd_d06339 k n_t n_text n_now n_past n_slots n_sightings n_survey n_trial n_now_rows n_survey_places n_survey_equations v_filledSlots v_seedNow v_now_size v_now_stations v_survey_divisor v_survey_squareSum r_now_rows r_survey_places) sz) o_r (wd_d06339 k n_t n_text n_now n_past n_slots n_sightings n_survey n_trial n_now_rows n_survey_places n_survey_equations v_filledSlots v_seedNow v_now_size v_now_stations v_survey_divisor v_survey_squareSum r_now_rows o_r_survey_places)) 0 0 (va_A (wd_d06339 k n_t n_text n_now n_past n_slots n_sightings n_survey n_trial n_now_rows n_survey_places n_survey_equations v_filledSlots v_seedNow v_now_size v_now_stations v_survey_divisor v_survey_squareSum r_now_rows r_survey_places) sz) := by
  refine g_entry (cc := cX5_laid) (maxL := 4) (ret := (some .int)) (lv := [(0, .ref n_t), (1, .int x1), (2, .int x2)]) (by decide +kernel) rfl (Nat.le_of_ble_eq_true rfl) rfl (fun p e s m below meth c ls hx hb hr hml hts hown hlk hnm hsz hG hA hP hD hS hl => ?_)
  exact k_X5_laid hx hb hml hts hown hG hA F n_t n_text n_now n_past n_slots n_sightings n_survey n_trial n_now_rows n_survey_places n_survey_equations v_filledSlots v_seedNow v_now_size v_now_stations v_survey_divisor v_survey_squareSum r_now_rows r_survey_places x1 x2 o_r o_r_survey_places (fun pc H locs ls v q_r_survey_places hd ho hP hD hS => by cases ho; exact g_ireti hx hb hr hlk hP hD hS hd) s.heap [] ls hl hP hD hS hm
end
section
set_option maxHeartbeats 4000000 in
set_option maxRecDepth 100000 in
theorem k_X5_legError {p : Program} {l : Launch} {e : Env} {s : State} {m : MethodId} {args : Array Value} {below : List Frame} {meth : Method} {c : Code} {A : Nat → Prop} {Q : State → Prop} {dC : Nat → ClassId} {dI : Nat → Nat → Nat} {k : Nat → ClassId} (hx : p.tables.exec = Jvm.exec) (hb : c.code = cX5_legError) (hml : c.maxLocals = 3) (hts : ∀ w ∈ wsX5_legError, w.before args s = true) (hown : s.vm.findClass RX5 = some m.cls) (hG : gK dC dI k A s) (hA : ∀ q : Nat, s.heap.size ≤ q → A q) (F : Nat) (n_t n_text n_now n_past n_slots n_sightings n_survey n_trial n_now_rows : Nat) (v_filledSlots : Int32) (v_seedNow : Int64) (v_now_size : Int32) (v_now_stations : Int32) (r_now_rows : Nat → Int32) (x1 : Int32) (x2 : Int32) (o_r : Int32) (RET : ∀ (pc : Nat) (H : Heap) (locs : List Loc) (ls : Array Slot) (v : Int32), decode cX5_legError pc = .ok (.ireturn, 1) → some v = some o_r → va_P (dC, dI) vwCl (wd_4273f5 k n_t n_text n_now n_past n_slots n_sightings n_survey n_trial n_now_rows v_filledSlots v_seedNow v_now_size v_now_stations r_now_rows) H → va_D A (wd_4273f5 k n_t n_text n_now n_past n_slots n_sightings n_survey n_trial n_now_rows v_filledSlots v_seedNow v_now_size v_now_stations r_now_rows) → va_S A s.heap H locs → W p l e rm_X5_legError s m args below meth c H locs 0 0 Q (F0 m pc ls [.int v])) (H : Heap) (locs : List Loc) (ls : Array Slot) (hl : lv_has ls 3 [(0, .ref n_t), (1, .int x1), (2, .int x2)]) (hP : va_P (dC, dI) vwCl (wd_4273f5 k n_t n_text n_now n_past n_slots n_sightings n_survey n_trial n_now_rows v_filledSlots v_seedNow v_now_size v_now_stations r_now_rows) H) (hD : va_D A (wd_4273f5 k n_t n_text n_now n_past n_slots n_sightings n_survey n_trial n_now_rows v_filledSlots v_seedNow v_now_size v_now_stations r_now_rows)) (hS : va_S A s.heap H locs) (hm : f_X5_legError F x1 x2 v_now_size r_now_rows = some o_r) : W p l e rm_X5_legError s m args below meth c H locs 0 0 Q (F0 m 0 ls []) := by
  have hinX5 : ∀ w ∈ u_ws RX5 TX5 9, w ∈ wsX5_legError := by decide +kernel
  have k0 := hts (.fieldLink RX5 19 "CaveLegs" "now" "LCaveLegs$Legs;") (by decide +kernel)
  unfold f_X5_legError at hm
  refine lv_aload_n hx hb dX5_legError_0 rfl (lv_at hl 0 rfl) ?_
  refine va_get (D := (dC, dI)) (ci := 5) (v := .ref n_now) (C := RX5) (T := TX5) (N := 9) hx hb hts hinX5 hown hG.1 hP 0 rfl rfl 1 (by decide) k0 (fun _ h9 => h9) rfl dX5_legError_1 ?_
  refine lv_iload_n hx hb dX5_legError_4 rfl (lv_at hl 1 rfl) ?_
  obtain ⟨r1, e2, hm⟩ := bnd1_some hm
  refine g_calli (w2 := (wd_4273f5 k n_t n_text n_now n_past n_slots n_sightings n_survey n_trial n_now_rows v_filledSlots v_seedNow v_now_size v_now_stations r_now_rows)) (va_runV (As := [.int x1]) (rest := []) ⟨hx, hb, hml, hown, hts⟩ (m_X0_has l dC dI k H.size n_now n_now_rows v_now_size v_now_stations x1 e2) (cwV 1 hts gX5_legError_X0_has rfl rfl rfl (by decide +kernel) ⟨Nat.le_of_ble_eq_true rfl, Nat.le_of_ble_eq_true rfl⟩) (g_preV hG hP hD hS hA [1] rfl (by decide) (ci := 0) (q0 := 1) rfl rfl) rfl rfl hl.1 rfl (lv_room (Nat.le_of_ble_eq_true rfl)) dX5_legError_5 ⟨Nat.le_of_ble_eq_true rfl, Nat.le_of_ble_eq_true rfl⟩) hP hD hS hA [1] [0, 2] [0, 2, 1] rfl rfl (by decide) (by decide) rfl (by decide) (fun H locs hP hD hS => ?_)
  refine lv_if_ne (tgt := 13) hx hb dX5_legError_8 (by decide) (fun c3 => ?_) (fun c3 => ?_)
  · replace hm := ifn c3 hm
    refine lv_iload_n hx hb dX5_legError_13 rfl (lv_at hl 2 rfl) ?_
    refine lv_if_lt (tgt := 22) hx hb dX5_legError_14 (by decide) (fun c4 => ?_) (fun c4 => ?_)
    · replace hm := ifp c4 hm
      refine lv_bipush (v := (-2 : Int32)) hx hb dX5_legError_22 (by decide) ?_
      exact RET _ _ _ _ _ dX5_legError_24 hm hP hD hS
    · replace hm := ifn c4 hm
      refine lv_iload_n hx hb dX5_legError_17 rfl (lv_at hl 2 rfl) ?_
      refine lv_iconst (v := (3 : Int32)) hx hb dX5_legError_18 (by decide) ?_
      refine lv_icmp_lt (tgt := 25) hx hb dX5_legError_19 (by decide) (fun c5 => ?_) (fun c5 => ?_)
      · replace hm := ifp c5 hm
        refine lv_aload_n hx hb dX5_legError_25 rfl (lv_at hl 0 rfl) ?_
        refine va_get (D := (dC, dI)) (ci := 5) (v := .ref n_now) (C := RX5) (T := TX5) (N := 9) hx hb hts hinX5 hown hG.1 hP 0 rfl rfl 1 (by decide) k0 (fun _ h9 => h9) rfl dX5_legError_26 ?_
        refine lv_aload_n hx hb dX5_legError_29 rfl (lv_at hl 0 rfl) ?_
        refine va_get (D := (dC, dI)) (ci := 5) (v := .ref n_now) (C := RX5) (T := TX5) (N := 9) hx hb hts hinX5 hown hG.1 hP 0 rfl rfl 1 (by decide) k0 (fun _ h9 => h9) rfl dX5_legError_30 ?_
        obtain ⟨r6, e7, hm⟩ := bnd1_some hm
        refine g_calli (w2 := (wd_4273f5 k n_t n_text n_now n_past n_slots n_sightings n_survey n_trial n_now_rows v_filledSlots v_seedNow v_now_size v_now_stations r_now_rows)) (va_runV (As := []) (rest := [.ref n_now]) ⟨hx, hb, hml, hown, hts⟩ (m_X0_connected l dC dI k F H.size n_now n_now_rows v_now_size v_now_stations r_now_rows  e7) (cwV 0 hts gX5_legError_X0_connected rfl rfl rfl (by decide +kernel) ⟨Nat.le_of_ble_eq_true rfl, Nat.le_of_ble_eq_true rfl⟩) (g_preV hG hP hD hS hA [1, 2] rfl (by decide) (ci := 0) (q0 := 1) rfl rfl) rfl rfl hl.1 rfl (lv_room (Nat.le_of_ble_eq_true rfl)) dX5_legError_33 ⟨Nat.le_of_ble_eq_true rfl, Nat.le_of_ble_eq_true rfl⟩) hP hD hS hA [1, 2] [0] [0, 1, 2] rfl rfl (by decide) (by decide) rfl (by decide) (fun H locs hP hD hS => ?_)
        obtain ⟨r8, e9, hm⟩ := bnd1_some hm
        refine g_calli (w2 := (wd_4273f5 k n_t n_text n_now n_past n_slots n_sightings n_survey n_trial n_now_rows v_filledSlots v_seedNow v_now_size v_now_stations r_now_rows)) (va_runV (As := [.int r6]) (rest := []) ⟨hx, hb, hml, hown, hts⟩ (m_X0_touching l dC dI k F H.size n_now n_now_rows v_now_size v_now_stations r_now_rows r6 e9) (cwV 1 hts gX5_legError_X0_touching rfl rfl rfl (by decide +kernel) ⟨Nat.le_of_ble_eq_true rfl, Nat.le_of_ble_eq_true rfl⟩) (g_preV hG hP hD hS hA [1, 2] rfl (by decide) (ci := 0) (q0 := 1) rfl rfl) rfl rfl hl.1 rfl (lv_room (Nat.le_of_ble_eq_true rfl)) dX5_legError_36 ⟨Nat.le_of_ble_eq_true rfl, Nat.le_of_ble_eq_true rfl⟩) hP hD hS hA [1, 2] [0] [0, 1, 2] rfl rfl (by decide) (by decide) rfl (by decide) (fun H locs hP hD hS => ?_)
        refine lv_iload_n hx hb dX5_legError_39 rfl (lv_at hl 1 rfl) ?_
        obtain ⟨r10, e11, hm⟩ := bnd1_some hm
        refine g_calli (w2 := (wd_4273f5 k n_t n_text n_now n_past n_slots n_sightings n_survey n_trial n_now_rows v_filledSlots v_seedNow v_now_size v_now_stations r_now_rows)) (va_runS (As := [.int r8, .int x1]) (rest := []) ⟨hx, hb, hml, hown, hts⟩ (m_X5_holds l dC dI k H.size  r8 x1 e11) (va_cwS 2 hts gX5_legError_X5_holds rfl rfl rfl (by decide +kernel) ⟨Nat.le_of_ble_eq_true rfl, Nat.le_of_ble_eq_true rfl⟩) (g_preS hG hP hD hS hA [] rfl (by decide)) rfl rfl hl.1 rfl (lv_room (Nat.le_of_ble_eq_true rfl)) dX5_legError_40 ⟨Nat.le_of_ble_eq_true rfl, Nat.le_of_ble_eq_true rfl⟩) hP hD hS hA [] [0, 1, 2] [0, 1, 2] rfl rfl (by decide) (by decide) rfl (by decide) (fun H locs hP hD hS => ?_)
        refine lv_if_eq (tgt := 51) hx hb dX5_legError_43 (by decide) (fun c12 => ?_) (fun c12 => ?_)
        · replace hm := ifp c12 hm
          refine lv_bipush (v := (-3 : Int32)) hx hb dX5_legError_51 (by decide) ?_
          exact RET _ _ _ _ _ dX5_legError_53 hm hP hD hS
        · replace hm := ifn c12 hm
          refine lv_bipush (v := (-9 : Int32)) hx hb dX5_legError_46 (by decide) ?_
          refine lv_goto (tgt := 53) hx hb dX5_legError_48 (by decide) ?_
          exact RET _ _ _ _ _ dX5_legError_53 hm hP hD hS
      · replace hm := ifn c5 hm
        refine lv_bipush (v := (-2 : Int32)) hx hb dX5_legError_22 (by decide) ?_
        exact RET _ _ _ _ _ dX5_legError_24 hm hP hD hS
  · replace hm := ifp c3 hm
    refine lv_iconst (v := (-1 : Int32)) hx hb dX5_legError_11 (by decide) ?_
    exact RET _ _ _ _ _ dX5_legError_12 hm hP hD hS
set_option maxRecDepth 100000 in
theorem m_X5_legError (l : Launch) (dC : Nat → ClassId) (dI : Nat → Nat → Nat) (k : Nat → ClassId) (F : Nat) (sz : Nat) (n_t n_text n_now n_past n_slots n_sightings n_survey n_trial n_now_rows : Nat) (v_filledSlots : Int32) (v_seedNow : Int64) (v_now_size : Int32) (v_now_stations : Int32) (r_now_rows : Nat → Int32) (x1 : Int32) (x2 : Int32) {o_r : Int32} (hm : f_X5_legError F x1 x2 v_now_size r_now_rows = some o_r) : Met l yX5_legError wsX5_legError rm_X5_legError (gPre dC dI k [.ref n_t, .int x1, .int x2] sz (wd_4273f5 k n_t n_text n_now n_past n_slots n_sightings n_survey n_trial n_now_rows v_filledSlots v_seedNow v_now_size v_now_stations r_now_rows)) (gQI dC dI (va_A (wd_4273f5 k n_t n_text n_now n_past n_slots n_sightings n_survey n_trial n_now_rows v_filledSlots v_seedNow v_now_size v_now_stations r_now_rows) sz) o_r (wd_4273f5 k n_t n_text n_now n_past n_slots n_sightings n_survey n_trial n_now_rows v_filledSlots v_seedNow v_now_size v_now_stations r_now_rows)) 0 0 (va_A (wd_4273f5 k n_t n_text n_now n_past n_slots n_sightings n_survey n_trial n_now_rows v_filledSlots v_seedNow v_now_size v_now_stations r_now_rows) sz) := by
  refine g_entry (cc := cX5_legError) (maxL := 3) (ret := (some .int)) (lv := [(0, .ref n_t), (1, .int x1), (2, .int x2)]) (by decide +kernel) rfl (Nat.le_of_ble_eq_true rfl) rfl (fun p e s m below meth c ls hx hb hr hml hts hown hlk hnm hsz hG hA hP hD hS hl => ?_)
  exact k_X5_legError hx hb hml hts hown hG hA F n_t n_text n_now n_past n_slots n_sightings n_survey n_trial n_now_rows v_filledSlots v_seedNow v_now_size v_now_stations r_now_rows x1 x2 o_r (fun pc H locs ls v hd ho hP hD hS => by cases ho; exact g_ireti hx hb hr hlk hP hD hS hd) s.heap [] ls hl hP hD hS hm
end
section
set_option maxHeartbeats 4000000 in
set_option maxRecDepth 100000 in
theorem k_X5_miss {p : Program} {l : Launch} {e : Env} {s : State} {m : MethodId} {args : Array Value} {below : List Frame} {meth : Method} {c : Code} {A : Nat → Prop} {Q : State → Prop} {dC : Nat → ClassId} {dI : Nat → Nat → Nat} {k : Nat → ClassId} (hx : p.tables.exec = Jvm.exec) (hb : c.code = cX5_miss) (hml : c.maxLocals = 4) (hts : ∀ w ∈ wsX5_miss, w.before args s = true) (hown : s.vm.findClass RX5 = some m.cls) (hG : gK dC dI k A s) (hA : ∀ q : Nat, s.heap.size ≤ q → A q) (F : Nat) (n_t n_text n_now n_past n_slots n_sightings n_survey n_trial n_now_rows n_survey_places n_survey_equations : Nat) (v_filledSlots : Int32) (v_seedNow : Int64) (v_now_size : Int32) (v_now_stations : Int32) (v_survey_divisor : Int64) (v_survey_squareSum : Int64) (r_now_rows : Nat → Int32) (r_survey_places : Nat → Int32) (x1 : Int32) (x2 : Int32) (o_r : Int32) (o_r_survey_places : (Nat → Int32)) (RET : ∀ (pc : Nat) (H : Heap) (locs : List Loc) (ls : Array Slot) (v : Int32) (q_r_survey_places : Nat → Int32), decode cX5_miss pc = .ok (.ireturn, 1) → some (v, q_r_survey_places) = some (o_r, o_r_survey_places) → va_P (dC, dI) vwCl (wd_d06339 k n_t n_text n_now n_past n_slots n_sightings n_survey n_trial n_now_rows n_survey_places n_survey_equations v_filledSlots v_seedNow v_now_size v_now_stations v_survey_divisor v_survey_squareSum r_now_rows q_r_survey_places) H → va_D A (wd_d06339 k n_t n_text n_now n_past n_slots n_sightings n_survey n_trial n_now_rows n_survey_places n_survey_equations v_filledSlots v_seedNow v_now_size v_now_stations v_survey_divisor v_survey_squareSum r_now_rows q_r_survey_places) → va_S A s.heap H locs → W p l e rm_X5_miss s m args below meth c H locs 0 0 Q (F0 m pc ls [.int v])) (H : Heap) (locs : List Loc) (ls : Array Slot) (hl : lv_has ls 4 [(0, .ref n_t), (1, .int x1), (2, .int x2)]) (hP : va_P (dC, dI) vwCl (wd_d06339 k n_t n_text n_now n_past n_slots n_sightings n_survey n_trial n_now_rows n_survey_places n_survey_equations v_filledSlots v_seedNow v_now_size v_now_stations v_survey_divisor v_survey_squareSum r_now_rows r_survey_places) H) (hD : va_D A (wd_d06339 k n_t n_text n_now n_past n_slots n_sightings n_survey n_trial n_now_rows n_survey_places n_survey_equations v_filledSlots v_seedNow v_now_size v_now_stations v_survey_divisor v_survey_squareSum r_now_rows r_survey_places)) (hS : va_S A s.heap H locs) (hm : f_X5_miss F x1 x2 v_now_size r_now_rows r_survey_places = some (o_r, o_r_survey_places)) : W p l e rm_X5_miss s m args below meth c H locs 0 0 Q (F0 m 0 ls []) := by
  have hinX5 : ∀ w ∈ u_ws RX5 TX5 9, w ∈ wsX5_miss := by decide +kernel
  have k0 := hts (.fieldLink RX5 44 "CaveLegs" "survey" "LCaveLegs$Survey;") (by decide +kernel)
  have k1 := hts (.fieldLink RX5 19 "CaveLegs" "now" "LCaveLegs$Legs;") (by decide +kernel)
  unfold f_X5_miss at hm
  refine lv_aload_n hx hb dX5_miss_0 rfl (lv_at hl 0 rfl) ?_
  refine lv_iload_n hx hb dX5_miss_1 rfl (lv_at hl 1 rfl) ?_
  refine lv_iload_n hx hb dX5_miss_2 rfl (lv_at hl 2 rfl) ?_
  obtain ⟨r1, e2, hm⟩ := bnd1_some hm
  refine g_calli (w2 := (wd_d06339 k n_t n_text n_now n_past n_slots n_sightings n_survey n_trial n_now_rows n_survey_places n_survey_equations v_filledSlots v_seedNow v_now_size v_now_stations v_survey_divisor v_survey_squareSum r_now_rows r_survey_places)) (va_runV (As := [.int x1, .int x2]) (rest := []) ⟨hx, hb, hml, hown, hts⟩ (m_X5_legError l dC dI k F H.size n_t n_text n_now n_past n_slots n_sightings n_survey n_trial n_now_rows v_filledSlots v_seedNow v_now_size v_now_stations r_now_rows x1 x2 e2) (cwV 2 hts gX5_miss_X5_legError rfl rfl rfl (by decide +kernel) ⟨Nat.le_of_ble_eq_true rfl, Nat.le_of_ble_eq_true rfl⟩) (g_preV hG hP hD hS hA [0, 1, 2] rfl (by decide) (ci := 5) (q0 := 0) rfl rfl) rfl rfl hl.1 rfl (lv_room (Nat.le_of_ble_eq_true rfl)) dX5_miss_3 ⟨Nat.le_of_ble_eq_true rfl, Nat.le_of_ble_eq_true rfl⟩) hP hD hS hA [0, 1, 2] [3, 4] [2, 3, 4, 0, 1] rfl rfl (by decide) (by decide) rfl (by decide) (fun H locs hP hD hS => ?_)
  refine lv_istore_n (lv' := [(3, .int r1), (0, .ref n_t), (1, .int x1), (2, .int x2)]) hx hb dX5_miss_6 rfl hl (by decide) rfl (fun ls hl => ?_)
  refine lv_iload_n hx hb dX5_miss_7 rfl (lv_at hl 0 rfl) ?_
  refine lv_bipush (v := (-9 : Int32)) hx hb dX5_miss_8 (by decide) ?_
  refine lv_icmp_eq (tgt := 15) hx hb dX5_miss_10 (by decide) (fun c3 => ?_) (fun c3 => ?_)
  · replace hm := ifp c3 hm
    refine lv_aload_n hx hb dX5_miss_15 rfl (lv_at hl 1 rfl) ?_
    refine va_get (D := (dC, dI)) (ci := 5) (v := .ref n_survey) (C := RX5) (T := TX5) (N := 9) hx hb hts hinX5 hown hG.1 hP 0 rfl rfl 5 (by decide) k0 (fun _ h9 => h9) rfl dX5_miss_16 ?_
    refine lv_aload_n hx hb dX5_miss_19 rfl (lv_at hl 1 rfl) ?_
    refine va_get (D := (dC, dI)) (ci := 5) (v := .ref n_now) (C := RX5) (T := TX5) (N := 9) hx hb hts hinX5 hown hG.1 hP 0 rfl rfl 1 (by decide) k1 (fun _ h9 => h9) rfl dX5_miss_20 ?_
    obtain ⟨w4, e5, hm⟩ := bnd1_some hm
    refine g_callv (w2 := (wd_d06339 k n_t n_text n_now n_past n_slots n_sightings n_survey n_trial n_now_rows n_survey_places n_survey_equations v_filledSlots v_seedNow v_now_size v_now_stations v_survey_divisor v_survey_squareSum r_now_rows w4)) (va_runV (As := [.ref n_now]) (rest := []) ⟨hx, hb, hml, hown, hts⟩ (m_X3_plot l dC dI k F H.size n_survey n_now n_survey_places n_survey_equations n_now_rows v_survey_divisor v_survey_squareSum v_now_size v_now_stations r_survey_places r_now_rows  e5) (cwV 1 hts gX5_miss_X3_plot rfl rfl rfl (by decide +kernel) ⟨Nat.le_of_ble_eq_true rfl, Nat.le_of_ble_eq_true rfl⟩) (g_preV hG hP hD hS hA [3, 4, 1, 2] rfl (by decide) (ci := 3) (q0 := 3) rfl rfl) rfl rfl hl.1 rfl (lv_room (Nat.le_of_ble_eq_true rfl)) dX5_miss_23 ⟨Nat.le_of_ble_eq_true rfl, Nat.le_of_ble_eq_true rfl⟩) hP hD hS hA [3, 4, 1, 2] [0] [0, 3, 4, 1, 2] rfl rfl (by decide) (by decide) rfl (by decide) (fun H locs hP hD hS => ?_)
    refine lv_aload_n hx hb dX5_miss_26 rfl (lv_at hl 1 rfl) ?_
    refine va_get (D := (dC, dI)) (ci := 5) (v := .ref n_survey) (C := RX5) (T := TX5) (N := 9) hx hb hts hinX5 hown hG.1 hP 0 rfl rfl 5 (by decide) k0 (fun _ h9 => h9) rfl dX5_miss_27 ?_
    refine lv_aload_n hx hb dX5_miss_30 rfl (lv_at hl 1 rfl) ?_
    refine va_get (D := (dC, dI)) (ci := 5) (v := .ref n_now) (C := RX5) (T := TX5) (N := 9) hx hb hts hinX5 hown hG.1 hP 0 rfl rfl 1 (by decide) k1 (fun _ h9 => h9) rfl dX5_miss_31 ?_
    refine lv_iload_n hx hb dX5_miss_34 rfl (lv_at hl 2 rfl) ?_
    refine lv_iload_n hx hb dX5_miss_35 rfl (lv_at hl 3 rfl) ?_
    obtain ⟨r6, e7, hm⟩ := bnd1_some hm
    refine g_calli (w2 := (wd_d06339 k n_t n_text n_now n_past n_slots n_sightings n_survey n_trial n_now_rows n_survey_places n_survey_equations v_filledSlots v_seedNow v_now_size v_now_stations v_survey_divisor v_survey_squareSum r_now_rows w4)) (va_runV (As := [.ref n_now, .int x1, .int x2]) (rest := []) ⟨hx, hb, hml, hown, hts⟩ (m_X3_misclosure l dC dI k H.size n_survey n_now n_survey_places n_survey_equations n_now_rows v_survey_divisor v_survey_squareSum v_now_size v_now_stations w4 r_now_rows x1 x2 e7) (cwV 3 hts gX5_miss_X3_misclosure rfl rfl rfl (by decide +kernel) ⟨Nat.le_of_ble_eq_true rfl, Nat.le_of_ble_eq_true rfl⟩) (g_preV hG hP hD hS hA [3, 4, 1, 2] rfl (by decide) (ci := 3) (q0 := 3) rfl rfl) rfl rfl hl.1 rfl (lv_room (Nat.le_of_ble_eq_true rfl)) dX5_miss_36 ⟨Nat.le_of_ble_eq_true rfl, Nat.le_of_ble_eq_true rfl⟩) hP hD hS hA [3, 4, 1, 2] [0] [0, 3, 4, 1, 2] rfl rfl (by decide) (by decide) rfl (by decide) (fun H locs hP hD hS => ?_)
    refine lv_sipush (v := (1000 : Int32)) hx hb dX5_miss_39 (by decide) ?_
    refine lv_iadd hx hb dX5_miss_42 ?_
    exact RET _ _ _ _ _ _ dX5_miss_43 hm hP hD hS
  · replace hm := ifn c3 hm
    refine lv_iload_n hx hb dX5_miss_13 rfl (lv_at hl 0 rfl) ?_
    exact RET _ _ _ _ _ _ dX5_miss_14 hm hP hD hS
set_option maxRecDepth 100000 in
theorem m_X5_miss (l : Launch) (dC : Nat → ClassId) (dI : Nat → Nat → Nat) (k : Nat → ClassId) (F : Nat) (sz : Nat) (n_t n_text n_now n_past n_slots n_sightings n_survey n_trial n_now_rows n_survey_places n_survey_equations : Nat) (v_filledSlots : Int32) (v_seedNow : Int64) (v_now_size : Int32) (v_now_stations : Int32) (v_survey_divisor : Int64) (v_survey_squareSum : Int64) (r_now_rows : Nat → Int32) (r_survey_places : Nat → Int32) (x1 : Int32) (x2 : Int32) {o_r : Int32} {o_r_survey_places : (Nat → Int32)} (hm : f_X5_miss F x1 x2 v_now_size r_now_rows r_survey_places = some (o_r, o_r_survey_places)) : Met l yX5_miss wsX5_miss rm_X5_miss (gPre dC dI k [.ref n_t, .int x1, .int x2] sz (wd_d06339 k n_t n_text n_now n_past n_slots n_sightings n_survey n_trial n_now_rows n_survey_places n_survey_equations v_filledSlots v_seedNow v_now_size v_now_stations v_survey_divisor v_survey_squareSum r_now_rows r_survey_places)) (gQI dC dI (va_A (wd_d06339 k n_t n_text n_now n_past n_slots n_sightings n_survey n_trial n_now_rows n_survey_places n_survey_equations v_filledSlots v_seedNow v_now_size v_now_stations v_survey_divisor v_survey_squareSum r_now_rows r_survey_places) sz) o_r (wd_d06339 k n_t n_text n_now n_past n_slots n_sightings n_survey n_trial n_now_rows n_survey_places n_survey_equations v_filledSlots v_seedNow v_now_size v_now_stations v_survey_divisor v_survey_squareSum r_now_rows o_r_survey_places)) 0 0 (va_A (wd_d06339 k n_t n_text n_now n_past n_slots n_sightings n_survey n_trial n_now_rows n_survey_places n_survey_equations v_filledSlots v_seedNow v_now_size v_now_stations v_survey_divisor v_survey_squareSum r_now_rows r_survey_places) sz) := by
  refine g_entry (cc := cX5_miss) (maxL := 4) (ret := (some .int)) (lv := [(0, .ref n_t), (1, .int x1), (2, .int x2)]) (by decide +kernel) rfl (Nat.le_of_ble_eq_true rfl) rfl (fun p e s m below meth c ls hx hb hr hml hts hown hlk hnm hsz hG hA hP hD hS hl => ?_)
  exact k_X5_miss hx hb hml hts hown hG hA F n_t n_text n_now n_past n_slots n_sightings n_survey n_trial n_now_rows n_survey_places n_survey_equations v_filledSlots v_seedNow v_now_size v_now_stations v_survey_divisor v_survey_squareSum r_now_rows r_survey_places x1 x2 o_r o_r_survey_places (fun pc H locs ls v q_r_survey_places hd ho hP hD hS => by cases ho; exact g_ireti hx hb hr hlk hP hD hS hd) s.heap [] ls hl hP hD hS hm
end
section
set_option maxHeartbeats 4000000 in
set_option maxRecDepth 100000 in
theorem k_X5_commonDivisor {p : Program} {l : Launch} {e : Env} {s : State} {m : MethodId} {args : Array Value} {below : List Frame} {meth : Method} {c : Code} {A : Nat → Prop} {Q : State → Prop} {dC : Nat → ClassId} {dI : Nat → Nat → Nat} {k : Nat → ClassId} (hx : p.tables.exec = Jvm.exec) (hb : c.code = cX5_commonDivisor) (hml : c.maxLocals = 11) (hts : ∀ w ∈ wsX5_commonDivisor, w.before args s = true) (hown : s.vm.findClass RX5 = some m.cls) (hG : gK dC dI k A s) (hA : ∀ q : Nat, s.heap.size ≤ q → A q) (F : Nat)  (x0 : Int64) (x2 : Int64) (o_r : Int64) (RET : ∀ (pc : Nat) (H : Heap) (locs : List Loc) (ls : Array Slot) (v : Int64), decode cX5_commonDivisor pc = .ok (.lreturn, 1) → some v = some o_r → va_P (dC, dI) vwCl [] H → va_D A [] → va_S A s.heap H locs → W p l e rm_X5_commonDivisor s m args below meth c H locs 0 0 Q (F0 m pc ls [.long v])) (H : Heap) (locs : List Loc) (ls : Array Slot) (hl : lv_has ls 11 [(0, .long x0), (2, .long x2)]) (hP : va_P (dC, dI) vwCl [] H) (hD : va_D A []) (hS : va_S A s.heap H locs) (hm : f_X5_commonDivisor F x0 x2 = some o_r) : W p l e rm_X5_commonDivisor s m args below meth c H locs 0 0 Q (F0 m 0 ls []) := by
  have L_9 : ∀ (n9 : Nat) (x4 : Int64) (x6 : Int64) (x8 : Int32) (H : Heap) (locs : List Loc) (ls : Array Slot), lv_has ls 11 [(4, .long x4), (6, .long x6), (8, .int x8)] → va_P (dC, dI) vwCl [] H → va_D A [] → va_S A s.heap H locs → f_X5_commonDivisor_L9 F n9 x4 x6 x8 = some o_r → W p l e rm_X5_commonDivisor s m args below meth c H locs 0 0 Q (F0 m 9 ls []) := by
    intro n9
    induction n9 with
    | zero =>
      intro x4 x6 x8 H locs ls hl hP hD hS hm
      exact non_some hm
    | succ n9 ih9 =>
      intro x4 x6 x8 H locs ls hl hP hD hS hm
      replace hm : f_X5_commonDivisor_B9 F (f_X5_commonDivisor_L9 F n9) x4 x6 x8 = some o_r := hm
      unfold f_X5_commonDivisor_B9 at hm
      refine lv_iload hx hb dX5_commonDivisor_9 (lv_at hl 2 rfl) ?_
      refine lv_bipush (v := (100 : Int32)) hx hb dX5_commonDivisor_11 (by decide) ?_
      refine lv_icmp_ge (tgt := 44) hx hb dX5_commonDivisor_13 (by decide) (fun c1 => ?_) (fun c1 => ?_)
      · replace hm := ifp c1 hm
        refine lv_lload hx hb dX5_commonDivisor_44 (lv_at hl 0 rfl) ?_
        exact RET _ _ _ _ _ dX5_commonDivisor_46 hm hP hD hS
      · replace hm := ifn c1 hm
        refine lv_lload hx hb dX5_commonDivisor_16 (lv_at hl 1 rfl) ?_
        refine lv_lconst (v := (0 : Int64)) hx hb dX5_commonDivisor_18 (by decide) ?_
        refine g_lcmp_eq (tgt := 44) hx hb dX5_commonDivisor_19 rfl dX5_commonDivisor_20 (by decide) (fun c2 => ?_) (fun c2 => ?_)
        · replace hm := ifp c2 hm
          refine lv_lload hx hb dX5_commonDivisor_44 (lv_at hl 0 rfl) ?_
          exact RET _ _ _ _ _ dX5_commonDivisor_46 hm hP hD hS
        · replace hm := ifn c2 hm
          refine lv_lload hx hb dX5_commonDivisor_23 (lv_at hl 0 rfl) ?_
          refine lv_lload hx hb dX5_commonDivisor_25 (lv_at hl 1 rfl) ?_
          obtain ⟨hz3, hm⟩ := chkDL_some hm
          refine g_lrem hx hb dX5_commonDivisor_27 hz3 ?_
          refine lv_topl (fun t4 et4 => ?_)
          replace hm := (nmd_eq et4).trans hm
          refine lv_lstore (lv' := [(9, .long t4), (4, .long x4), (6, .long x6), (8, .int x8)]) hx hb dX5_commonDivisor_28 hl (by decide) rfl (fun ls hl => ?_)
          refine lv_lload hx hb dX5_commonDivisor_30 (lv_at hl 2 rfl) ?_
          refine lv_lstore (lv' := [(4, .long x6), (9, .long t4), (6, .long x6), (8, .int x8)]) hx hb dX5_commonDivisor_32 hl (by decide) rfl (fun ls hl => ?_)
          refine lv_lload hx hb dX5_commonDivisor_34 (lv_at hl 1 rfl) ?_
          refine lv_lstore (lv' := [(6, .long t4), (4, .long x6), (9, .long t4), (8, .int x8)]) hx hb dX5_commonDivisor_36 hl (by decide) rfl (fun ls hl => ?_)
          obtain ⟨t5, et5⟩ : ∃ y : Int32, y = x8 + (1 : Int32) := ⟨_, rfl⟩
          replace hm := (nmd_eq et5).trans hm
          refine lv_iinc (v := t5) (lv' := [(8, .int t5), (6, .long t4), (4, .long x6), (9, .long t4)]) hx hb dX5_commonDivisor_38 hl (k := 3) rfl (by rw [et5]; rfl) (by decide) rfl (fun ls hl => ?_)
          refine lv_goto (tgt := 9) hx hb dX5_commonDivisor_41 (by decide) ?_
          exact ih9 _ _ _ _ _ _ (lv_sub hl [2, 1, 0] rfl) hP hD hS hm
  unfold f_X5_commonDivisor at hm
  refine lv_lload_n hx hb dX5_commonDivisor_0 rfl (lv_at hl 0 rfl) ?_
  refine lv_lstore (lv' := [(4, .long x0), (0, .long x0), (2, .long x2)]) hx hb dX5_commonDivisor_1 hl (by decide) rfl (fun ls hl => ?_)
  refine lv_lload_n hx hb dX5_commonDivisor_3 rfl (lv_at hl 2 rfl) ?_
  refine lv_lstore (lv' := [(6, .long x2), (4, .long x0), (0, .long x0), (2, .long x2)]) hx hb dX5_commonDivisor_4 hl (by decide) rfl (fun ls hl => ?_)
  refine lv_iconst (v := (0 : Int32)) hx hb dX5_commonDivisor_6 (by decide) ?_
  refine lv_istore (lv' := [(8, .int (0 : Int32)), (6, .long x2), (4, .long x0), (0, .long x0), (2, .long x2)]) hx hb dX5_commonDivisor_7 hl (by decide) rfl (fun ls hl => ?_)
  exact L_9 F _ _ _ _ _ _ (lv_sub hl [2, 1, 0] rfl) hP hD hS hm
set_option maxRecDepth 100000 in
theorem m_X5_commonDivisor (l : Launch) (dC : Nat → ClassId) (dI : Nat → Nat → Nat) (k : Nat → ClassId) (F : Nat) (sz : Nat)  (x0 : Int64) (x2 : Int64) {o_r : Int64} (hm : f_X5_commonDivisor F x0 x2 = some o_r) : Met l yX5_commonDivisor wsX5_commonDivisor rm_X5_commonDivisor (gPre dC dI k [.long x0, .long x2] sz []) (gQL dC dI (va_A [] sz) o_r []) 0 0 (va_A [] sz) := by
  refine g_entry (cc := cX5_commonDivisor) (maxL := 11) (ret := (some .long)) (lv := [(0, .long x0), (2, .long x2)]) (by decide +kernel) rfl (Nat.le_of_ble_eq_true rfl) rfl (fun p e s m below meth c ls hx hb hr hml hts hown hlk hnm hsz hG hA hP hD hS hl => ?_)
  exact k_X5_commonDivisor hx hb hml hts hown hG hA F x0 x2 o_r (fun pc H locs ls v hd ho hP hD hS => by cases ho; exact g_lret hx hb hr hlk hP hD hS hd) s.heap [] ls hl hP hD hS hm
end
section
set_option maxHeartbeats 4000000 in
set_option maxRecDepth 100000 in
theorem k_X5_lowest {p : Program} {l : Launch} {e : Env} {s : State} {m : MethodId} {args : Array Value} {below : List Frame} {meth : Method} {c : Code} {A : Nat → Prop} {Q : State → Prop} {dC : Nat → ClassId} {dI : Nat → Nat → Nat} {k : Nat → ClassId} (hx : p.tables.exec = Jvm.exec) (hb : c.code = cX5_lowest) (hml : c.maxLocals = 9) (hts : ∀ w ∈ wsX5_lowest, w.before args s = true) (hown : s.vm.findClass RX5 = some m.cls) (hG : gK dC dI k A s) (hA : ∀ q : Nat, s.heap.size ≤ q → A q) (F : Nat)  (x0 : Int64) (x2 : Int64) (x4 : Int32) (o_r : Int64) (RET : ∀ (pc : Nat) (H : Heap) (locs : List Loc) (ls : Array Slot) (v : Int64), decode cX5_lowest pc = .ok (.lreturn, 1) → some v = some o_r → va_P (dC, dI) vwCl [] H → va_D A [] → va_S A s.heap H locs → W p l e rm_X5_lowest s m args below meth c H locs 0 0 Q (F0 m pc ls [.long v])) (H : Heap) (locs : List Loc) (ls : Array Slot) (hl : lv_has ls 9 [(0, .long x0), (2, .long x2), (4, .int x4)]) (hP : va_P (dC, dI) vwCl [] H) (hD : va_D A []) (hS : va_S A s.heap H locs) (hm : f_X5_lowest F x0 x2 x4 = some o_r) : W p l e rm_X5_lowest s m args below meth c H locs 0 0 Q (F0 m 0 ls []) := by
  have k0 := hts (.methodLink RX5 254 Lib.MathLoose.abs_long.x) (by decide +kernel)
  have k1 := hts (.static Lib.MathLoose.abs_long.x) (by decide +kernel)
  have k2 := hts (.initialized "java/lang/Math") (by decide +kernel)
  have k3 := hts (.code Lib.MathLoose.abs_long.x Lib.MathLoose.abs_long.code 2 (some .long)) (by decide +kernel)
  have J_20 : ∀ (x5 : Int64) (s0 : Int64) (H : Heap) (locs : List Loc) (ls : Array Slot), lv_has ls 9 [(5, .long x5)] → va_P (dC, dI) vwCl [] H → va_D A [] → va_S A s.heap H locs → f_X5_lowest_J20 F x5 s0 = some o_r → W p l e rm_X5_lowest s m args below meth c H locs 0 0 Q (F0 m 20 ls [.long s0]) := by
    intro x5 s0 H locs ls hl hP hD hS hm
    unfold f_X5_lowest_J20 at hm
    refine lv_lstore (lv' := [(7, .long s0), (5, .long x5)]) hx hb dX5_lowest_20 hl (by decide) rfl (fun ls hl => ?_)
    refine lv_lload hx hb dX5_lowest_22 (lv_at hl 1 rfl) ?_
    refine lv_lconst (v := (0 : Int64)) hx hb dX5_lowest_24 (by decide) ?_
    refine g_lcmp_ne (tgt := 34) hx hb dX5_lowest_25 rfl dX5_lowest_26 (by decide) (fun c1 => ?_) (fun c1 => ?_)
    · replace hm := ifn c1 hm
      refine lv_lload hx hb dX5_lowest_34 (lv_at hl 0 rfl) ?_
      refine lv_lload hx hb dX5_lowest_36 (lv_at hl 1 rfl) ?_
      obtain ⟨hz2, hm⟩ := chkDL_some hm
      refine lv_ldiv hx hb dX5_lowest_38 hz2 ?_
      exact RET _ _ _ _ _ dX5_lowest_39 hm hP hD hS
    · replace hm := ifp c1 hm
      refine lv_lload hx hb dX5_lowest_29 (lv_at hl 0 rfl) ?_
      refine lv_goto (tgt := 39) hx hb dX5_lowest_31 (by decide) ?_
      exact RET _ _ _ _ _ dX5_lowest_39 hm hP hD hS
  unfold f_X5_lowest at hm
  refine lv_lload_n hx hb dX5_lowest_0 rfl (lv_at hl 1 rfl) ?_
  refine lv_lload_n hx hb dX5_lowest_1 rfl (lv_at hl 0 rfl) ?_
  refine g_absL hx hb (hml.trans hl.1.symm) hown k0 k1 k2 k3 (Nat.le_of_ble_eq_true rfl) (Nat.le_of_ble_eq_true rfl) (Nat.le_of_ble_eq_true rfl) (Nat.le_of_ble_eq_true rfl) dX5_lowest_2 ?_
  obtain ⟨r3, e4, hm⟩ := bnd1_some hm
  refine g_calll (w2 := []) (va_runS (As := [.long x2, .long (absL x0)]) (rest := []) ⟨hx, hb, hml, hown, hts⟩ (m_X5_commonDivisor l dC dI k F H.size  x2 (absL x0) e4) (va_cwS 2 hts gX5_lowest_X5_commonDivisor rfl rfl rfl (by decide +kernel) ⟨Nat.le_of_ble_eq_true rfl, Nat.le_of_ble_eq_true rfl⟩) (g_preS hG hP hD hS hA [] rfl (by decide)) rfl rfl hl.1 rfl (lv_room (Nat.le_of_ble_eq_true rfl)) dX5_lowest_5 ⟨Nat.le_of_ble_eq_true rfl, Nat.le_of_ble_eq_true rfl⟩) hP hD hS hA [] [] [] rfl rfl (by decide) (by decide) rfl (by decide) (fun H locs hP hD hS => ?_)
  refine lv_lstore (lv' := [(5, .long r3), (0, .long x0), (2, .long x2), (4, .int x4)]) hx hb dX5_lowest_8 hl (by decide) rfl (fun ls hl => ?_)
  refine lv_iload hx hb dX5_lowest_10 (lv_at hl 3 rfl) ?_
  refine lv_if_eq (tgt := 19) hx hb dX5_lowest_12 (by decide) (fun c5 => ?_) (fun c5 => ?_)
  · replace hm := ifp c5 hm
    refine lv_lload_n hx hb dX5_lowest_19 rfl (lv_at hl 2 rfl) ?_
    exact J_20 _ _ _ _ _ (lv_sub hl [0] rfl) hP hD hS hm
  · replace hm := ifn c5 hm
    refine lv_lload_n hx hb dX5_lowest_15 rfl (lv_at hl 1 rfl) ?_
    refine lv_goto (tgt := 20) hx hb dX5_lowest_16 (by decide) ?_
    exact J_20 _ _ _ _ _ (lv_sub hl [0] rfl) hP hD hS hm
set_option maxRecDepth 100000 in
theorem m_X5_lowest (l : Launch) (dC : Nat → ClassId) (dI : Nat → Nat → Nat) (k : Nat → ClassId) (F : Nat) (sz : Nat)  (x0 : Int64) (x2 : Int64) (x4 : Int32) {o_r : Int64} (hm : f_X5_lowest F x0 x2 x4 = some o_r) : Met l yX5_lowest wsX5_lowest rm_X5_lowest (gPre dC dI k [.long x0, .long x2, .int x4] sz []) (gQL dC dI (va_A [] sz) o_r []) 0 0 (va_A [] sz) := by
  refine g_entry (cc := cX5_lowest) (maxL := 9) (ret := (some .long)) (lv := [(0, .long x0), (2, .long x2), (4, .int x4)]) (by decide +kernel) rfl (Nat.le_of_ble_eq_true rfl) rfl (fun p e s m below meth c ls hx hb hr hml hts hown hlk hnm hsz hG hA hP hD hS hl => ?_)
  exact k_X5_lowest hx hb hml hts hown hG hA F x0 x2 x4 o_r (fun pc H locs ls v hd ho hP hD hS => by cases ho; exact g_lret hx hb hr hlk hP hD hS hd) s.heap [] ls hl hP hD hS hm
end
section
set_option maxHeartbeats 4000000 in
set_option maxRecDepth 100000 in
theorem k_X5_evened {p : Program} {l : Launch} {e : Env} {s : State} {m : MethodId} {args : Array Value} {below : List Frame} {meth : Method} {c : Code} {A : Nat → Prop} {Q : State → Prop} {dC : Nat → ClassId} {dI : Nat → Nat → Nat} {k : Nat → ClassId} (hx : p.tables.exec = Jvm.exec) (hb : c.code = cX5_evened) (hml : c.maxLocals = 5) (hts : ∀ w ∈ wsX5_evened, w.before args s = true) (hown : s.vm.findClass RX5 = some m.cls) (hG : gK dC dI k A s) (hA : ∀ q : Nat, s.heap.size ≤ q → A q) (F : Nat) (n_t n_text n_now n_past n_slots n_sightings n_survey n_trial n_now_rows n_survey_places n_survey_equations : Nat) (v_filledSlots : Int32) (v_seedNow : Int64) (v_now_size : Int32) (v_now_stations : Int32) (v_survey_divisor : Int64) (v_survey_squareSum : Int64) (r_now_rows : Nat → Int32) (r_survey_equations : Nat → Int64) (x1 : Int32) (x2 : Int32) (x3 : Int32) (o_r : Int64) (o_v_survey_divisor : (Int64)) (o_v_survey_squareSum : (Int64)) (o_r_survey_equations : (Nat → Int64)) (RET : ∀ (pc : Nat) (H : Heap) (locs : List Loc) (ls : Array Slot) (v : Int64) (q_v_survey_divisor : Int64) (q_v_survey_squareSum : Int64) (q_r_survey_equations : Nat → Int64), decode cX5_evened pc = .ok (.lreturn, 1) → some (v, q_v_survey_divisor, q_v_survey_squareSum, q_r_survey_equations) = some (o_r, o_v_survey_divisor, o_v_survey_squareSum, o_r_survey_equations) → va_P (dC, dI) vwCl (wd_92742b k n_t n_text n_now n_past n_slots n_sightings n_survey n_trial n_now_rows n_survey_places n_survey_equations v_filledSlots v_seedNow v_now_size v_now_stations q_v_survey_divisor q_v_survey_squareSum r_now_rows q_r_survey_equations) H → va_D A (wd_92742b k n_t n_text n_now n_past n_slots n_sightings n_survey n_trial n_now_rows n_survey_places n_survey_equations v_filledSlots v_seedNow v_now_size v_now_stations q_v_survey_divisor q_v_survey_squareSum r_now_rows q_r_survey_equations) → va_S A s.heap H locs → W p l e rm_X5_evened s m args below meth c H locs 0 0 Q (F0 m pc ls [.long v])) (H : Heap) (locs : List Loc) (ls : Array Slot) (hl : lv_has ls 5 [(0, .ref n_t), (1, .int x1), (2, .int x2), (3, .int x3)]) (hP : va_P (dC, dI) vwCl (wd_92742b k n_t n_text n_now n_past n_slots n_sightings n_survey n_trial n_now_rows n_survey_places n_survey_equations v_filledSlots v_seedNow v_now_size v_now_stations v_survey_divisor v_survey_squareSum r_now_rows r_survey_equations) H) (hD : va_D A (wd_92742b k n_t n_text n_now n_past n_slots n_sightings n_survey n_trial n_now_rows n_survey_places n_survey_equations v_filledSlots v_seedNow v_now_size v_now_stations v_survey_divisor v_survey_squareSum r_now_rows r_survey_equations)) (hS : va_S A s.heap H locs) (hm : f_X5_evened F x1 x2 x3 v_now_size v_now_stations r_now_rows v_survey_divisor v_survey_squareSum r_survey_equations = some (o_r, o_v_survey_divisor, o_v_survey_squareSum, o_r_survey_equations)) : W p l e rm_X5_evened s m args below meth c H locs 0 0 Q (F0 m 0 ls []) := by
  have hinX3 : ∀ w ∈ u_ws RX3 TX3 4, w ∈ wsX5_evened := by decide +kernel
  have hinX5 : ∀ w ∈ u_ws RX5 TX5 9, w ∈ wsX5_evened := by decide +kernel
  have k0 := hts (.fieldLink RX5 44 "CaveLegs" "survey" "LCaveLegs$Survey;") (by decide +kernel)
  have k1 := hts (.fieldLink RX5 19 "CaveLegs" "now" "LCaveLegs$Legs;") (by decide +kernel)
  have k2 := hts (.fieldLink RX5 146 "CaveLegs$Survey" "divisor" "J") (by decide +kernel)
  unfold f_X5_evened at hm
  refine lv_aload_n hx hb dX5_evened_0 rfl (lv_at hl 0 rfl) ?_
  refine lv_iload_n hx hb dX5_evened_1 rfl (lv_at hl 1 rfl) ?_
  refine lv_iload_n hx hb dX5_evened_2 rfl (lv_at hl 2 rfl) ?_
  obtain ⟨r1, e2, hm⟩ := bnd1_some hm
  refine g_calli (w2 := (wd_92742b k n_t n_text n_now n_past n_slots n_sightings n_survey n_trial n_now_rows n_survey_places n_survey_equations v_filledSlots v_seedNow v_now_size v_now_stations v_survey_divisor v_survey_squareSum r_now_rows r_survey_equations)) (va_runV (As := [.int x1, .int x2]) (rest := []) ⟨hx, hb, hml, hown, hts⟩ (m_X5_stationError l dC dI k F H.size n_t n_text n_now n_past n_slots n_sightings n_survey n_trial n_now_rows v_filledSlots v_seedNow v_now_size v_now_stations r_now_rows x1 x2 e2) (cwV 2 hts gX5_evened_X5_stationError rfl rfl rfl (by decide +kernel) ⟨Nat.le_of_ble_eq_true rfl, Nat.le_of_ble_eq_true rfl⟩) (g_preV hG hP hD hS hA [0, 1, 2] rfl (by decide) (ci := 5) (q0 := 0) rfl rfl) rfl rfl hl.1 rfl (lv_room (Nat.le_of_ble_eq_true rfl)) dX5_evened_3 ⟨Nat.le_of_ble_eq_true rfl, Nat.le_of_ble_eq_true rfl⟩) hP hD hS hA [0, 1, 2] [3, 4] [2, 3, 4, 0, 1] rfl rfl (by decide) (by decide) rfl (by decide) (fun H locs hP hD hS => ?_)
  refine lv_istore (lv' := [(4, .int r1), (0, .ref n_t), (1, .int x1), (2, .int x2), (3, .int x3)]) hx hb dX5_evened_6 hl (by decide) rfl (fun ls hl => ?_)
  refine lv_iload hx hb dX5_evened_8 (lv_at hl 0 rfl) ?_
  refine lv_bipush (v := (-9 : Int32)) hx hb dX5_evened_10 (by decide) ?_
  refine lv_icmp_eq (tgt := 19) hx hb dX5_evened_12 (by decide) (fun c3 => ?_) (fun c3 => ?_)
  · replace hm := ifp c3 hm
    refine lv_aload_n hx hb dX5_evened_19 rfl (lv_at hl 1 rfl) ?_
    refine va_get (D := (dC, dI)) (ci := 5) (v := .ref n_survey) (C := RX5) (T := TX5) (N := 9) hx hb hts hinX5 hown hG.1 hP 0 rfl rfl 5 (by decide) k0 (fun _ h9 => h9) rfl dX5_evened_20 ?_
    refine lv_aload_n hx hb dX5_evened_23 rfl (lv_at hl 1 rfl) ?_
    refine va_get (D := (dC, dI)) (ci := 5) (v := .ref n_now) (C := RX5) (T := TX5) (N := 9) hx hb hts hinX5 hown hG.1 hP 0 rfl rfl 1 (by decide) k1 (fun _ h9 => h9) rfl dX5_evened_24 ?_
    refine lv_aload_n hx hb dX5_evened_27 rfl (lv_at hl 1 rfl) ?_
    refine va_get (D := (dC, dI)) (ci := 5) (v := .ref n_now) (C := RX5) (T := TX5) (N := 9) hx hb hts hinX5 hown hG.1 hP 0 rfl rfl 1 (by decide) k1 (fun _ h9 => h9) rfl dX5_evened_28 ?_
    obtain ⟨r4, e5, hm⟩ := bnd1_some hm
    refine g_calli (w2 := (wd_92742b k n_t n_text n_now n_past n_slots n_sightings n_survey n_trial n_now_rows n_survey_places n_survey_equations v_filledSlots v_seedNow v_now_size v_now_stations v_survey_divisor v_survey_squareSum r_now_rows r_survey_equations)) (va_runV (As := []) (rest := [.ref n_now, .ref n_survey]) ⟨hx, hb, hml, hown, hts⟩ (m_X0_all l dC dI k H.size n_now n_now_rows v_now_size v_now_stations  e5) (cwV 0 hts gX5_evened_X0_all rfl rfl rfl (by decide +kernel) ⟨Nat.le_of_ble_eq_true rfl, Nat.le_of_ble_eq_true rfl⟩) (g_preV hG hP hD hS hA [1] rfl (by decide) (ci := 0) (q0 := 1) rfl rfl) rfl rfl hl.1 rfl (lv_room (Nat.le_of_ble_eq_true rfl)) dX5_evened_31 ⟨Nat.le_of_ble_eq_true rfl, Nat.le_of_ble_eq_true rfl⟩) hP hD hS hA [1] [0, 2, 3, 4] [0, 4, 1, 2, 3] rfl rfl (by decide) (by decide) rfl (by decide) (fun H locs hP hD hS => ?_)
    obtain ⟨w6, w7, w8, e9, hm⟩ := bnd3_some hm
    refine g_callv (w2 := (wd_92742b k n_t n_text n_now n_past n_slots n_sightings n_survey n_trial n_now_rows n_survey_places n_survey_equations v_filledSlots v_seedNow v_now_size v_now_stations w6 w7 r_now_rows w8)) (va_runV (As := [.ref n_now, .int r4]) (rest := []) ⟨hx, hb, hml, hown, hts⟩ (m_X3_adjust l dC dI k F H.size n_survey n_now n_survey_places n_survey_equations n_now_rows v_survey_divisor v_survey_squareSum v_now_size v_now_stations r_survey_equations r_now_rows r4 e9) (cwV 2 hts gX5_evened_X3_adjust rfl rfl rfl (by decide +kernel) ⟨Nat.le_of_ble_eq_true rfl, Nat.le_of_ble_eq_true rfl⟩) (g_preV hG hP hD hS hA [3, 4, 1, 2] rfl (by decide) (ci := 3) (q0 := 3) rfl rfl) rfl rfl hl.1 rfl (lv_room (Nat.le_of_ble_eq_true rfl)) dX5_evened_34 ⟨Nat.le_of_ble_eq_true rfl, Nat.le_of_ble_eq_true rfl⟩) hP hD hS hA [3, 4, 1, 2] [0] [0, 3, 4, 1, 2] rfl rfl (by decide) (by decide) rfl (by decide) (fun H locs hP hD hS => ?_)
    refine lv_aload_n hx hb dX5_evened_37 rfl (lv_at hl 1 rfl) ?_
    refine va_get (D := (dC, dI)) (ci := 5) (v := .ref n_survey) (C := RX5) (T := TX5) (N := 9) hx hb hts hinX5 hown hG.1 hP 0 rfl rfl 5 (by decide) k0 (fun _ h9 => h9) rfl dX5_evened_38 ?_
    refine lv_iload_n hx hb dX5_evened_41 rfl (lv_at hl 2 rfl) ?_
    refine lv_iload_n hx hb dX5_evened_42 rfl (lv_at hl 3 rfl) ?_
    obtain ⟨r10, e11, hm⟩ := bnd1_some hm
    refine g_calll (w2 := (wd_92742b k n_t n_text n_now n_past n_slots n_sightings n_survey n_trial n_now_rows n_survey_places n_survey_equations v_filledSlots v_seedNow v_now_size v_now_stations w6 w7 r_now_rows w8)) (va_runV (As := [.int x1, .int x2]) (rest := []) ⟨hx, hb, hml, hown, hts⟩ (m_X3_coordinate l dC dI k H.size n_survey n_survey_places n_survey_equations w6 w7 w8 x1 x2 e11) (cwV 2 hts gX5_evened_X3_coordinate rfl rfl rfl (by decide +kernel) ⟨Nat.le_of_ble_eq_true rfl, Nat.le_of_ble_eq_true rfl⟩) (g_preV hG hP hD hS hA [3, 4] rfl (by decide) (ci := 3) (q0 := 3) rfl rfl) rfl rfl hl.1 rfl (lv_room (Nat.le_of_ble_eq_true rfl)) dX5_evened_43 ⟨Nat.le_of_ble_eq_true rfl, Nat.le_of_ble_eq_true rfl⟩) hP hD hS hA [3, 4] [0, 1, 2] [0, 1, 2, 3, 4] rfl rfl (by decide) (by decide) rfl (by decide) (fun H locs hP hD hS => ?_)
    refine lv_aload_n hx hb dX5_evened_46 rfl (lv_at hl 1 rfl) ?_
    refine va_get (D := (dC, dI)) (ci := 5) (v := .ref n_survey) (C := RX5) (T := TX5) (N := 9) hx hb hts hinX5 hown hG.1 hP 0 rfl rfl 5 (by decide) k0 (fun _ h9 => h9) rfl dX5_evened_47 ?_
    refine va_get (D := (dC, dI)) (ci := 3) (v := .long w6) (C := RX3) (T := TX3) (N := 4) hx hb hts hinX3 hown hG.1 hP 3 rfl rfl 2 (by decide) k2 (fun _ h9 => h9) rfl dX5_evened_50 ?_
    refine lv_iload_n hx hb dX5_evened_53 rfl (lv_at hl 4 rfl) ?_
    obtain ⟨r12, e13, hm⟩ := bnd1_some hm
    refine g_calll (w2 := (wd_92742b k n_t n_text n_now n_past n_slots n_sightings n_survey n_trial n_now_rows n_survey_places n_survey_equations v_filledSlots v_seedNow v_now_size v_now_stations w6 w7 r_now_rows w8)) (va_runS (As := [.long r10, .long w6, .int x3]) (rest := []) ⟨hx, hb, hml, hown, hts⟩ (m_X5_lowest l dC dI k F H.size  r10 w6 x3 e13) (va_cwS 3 hts gX5_evened_X5_lowest rfl rfl rfl (by decide +kernel) ⟨Nat.le_of_ble_eq_true rfl, Nat.le_of_ble_eq_true rfl⟩) (g_preS hG hP hD hS hA [] rfl (by decide)) rfl rfl hl.1 rfl (lv_room (Nat.le_of_ble_eq_true rfl)) dX5_evened_54 ⟨Nat.le_of_ble_eq_true rfl, Nat.le_of_ble_eq_true rfl⟩) hP hD hS hA [] [0, 1, 2, 3, 4] [0, 1, 2, 3, 4] rfl rfl (by decide) (by decide) rfl (by decide) (fun H locs hP hD hS => ?_)
    exact RET _ _ _ _ _ _ _ _ dX5_evened_57 hm hP hD hS
  · replace hm := ifn c3 hm
    refine lv_iload hx hb dX5_evened_15 (lv_at hl 0 rfl) ?_
    refine g_i2l hx hb dX5_evened_17 ?_
    exact RET _ _ _ _ _ _ _ _ dX5_evened_18 hm hP hD hS
set_option maxRecDepth 100000 in
theorem m_X5_evened (l : Launch) (dC : Nat → ClassId) (dI : Nat → Nat → Nat) (k : Nat → ClassId) (F : Nat) (sz : Nat) (n_t n_text n_now n_past n_slots n_sightings n_survey n_trial n_now_rows n_survey_places n_survey_equations : Nat) (v_filledSlots : Int32) (v_seedNow : Int64) (v_now_size : Int32) (v_now_stations : Int32) (v_survey_divisor : Int64) (v_survey_squareSum : Int64) (r_now_rows : Nat → Int32) (r_survey_equations : Nat → Int64) (x1 : Int32) (x2 : Int32) (x3 : Int32) {o_r : Int64} {o_v_survey_divisor : (Int64)} {o_v_survey_squareSum : (Int64)} {o_r_survey_equations : (Nat → Int64)} (hm : f_X5_evened F x1 x2 x3 v_now_size v_now_stations r_now_rows v_survey_divisor v_survey_squareSum r_survey_equations = some (o_r, o_v_survey_divisor, o_v_survey_squareSum, o_r_survey_equations)) : Met l yX5_evened wsX5_evened rm_X5_evened (gPre dC dI k [.ref n_t, .int x1, .int x2, .int x3] sz (wd_92742b k n_t n_text n_now n_past n_slots n_sightings n_survey n_trial n_now_rows n_survey_places n_survey_equations v_filledSlots v_seedNow v_now_size v_now_stations v_survey_divisor v_survey_squareSum r_now_rows r_survey_equations)) (gQL dC dI (va_A (wd_92742b k n_t n_text n_now n_past n_slots n_sightings n_survey n_trial n_now_rows n_survey_places n_survey_equations v_filledSlots v_seedNow v_now_size v_now_stations v_survey_divisor v_survey_squareSum r_now_rows r_survey_equations) sz) o_r (wd_92742b k n_t n_text n_now n_past n_slots n_sightings n_survey n_trial n_now_rows n_survey_places n_survey_equations v_filledSlots v_seedNow v_now_size v_now_stations o_v_survey_divisor o_v_survey_squareSum r_now_rows o_r_survey_equations)) 0 0 (va_A (wd_92742b k n_t n_text n_now n_past n_slots n_sightings n_survey n_trial n_now_rows n_survey_places n_survey_equations v_filledSlots v_seedNow v_now_size v_now_stations v_survey_divisor v_survey_squareSum r_now_rows r_survey_equations) sz) := by
  refine g_entry (cc := cX5_evened) (maxL := 5) (ret := (some .long)) (lv := [(0, .ref n_t), (1, .int x1), (2, .int x2), (3, .int x3)]) (by decide +kernel) rfl (Nat.le_of_ble_eq_true rfl) rfl (fun p e s m below meth c ls hx hb hr hml hts hown hlk hnm hsz hG hA hP hD hS hl => ?_)
  exact k_X5_evened hx hb hml hts hown hG hA F n_t n_text n_now n_past n_slots n_sightings n_survey n_trial n_now_rows n_survey_places n_survey_equations v_filledSlots v_seedNow v_now_size v_now_stations v_survey_divisor v_survey_squareSum r_now_rows r_survey_equations x1 x2 x3 o_r o_v_survey_divisor o_v_survey_squareSum o_r_survey_equations (fun pc H locs ls v q_v_survey_divisor q_v_survey_squareSum q_r_survey_equations hd ho hP hD hS => by cases ho; exact g_lret hx hb hr hlk hP hD hS hd) s.heap [] ls hl hP hD hS hm
end
section
set_option maxHeartbeats 4000000 in
set_option maxRecDepth 100000 in
theorem k_X5_rest {p : Program} {l : Launch} {e : Env} {s : State} {m : MethodId} {args : Array Value} {below : List Frame} {meth : Method} {c : Code} {A : Nat → Prop} {Q : State → Prop} {dC : Nat → ClassId} {dI : Nat → Nat → Nat} {k : Nat → ClassId} (hx : p.tables.exec = Jvm.exec) (hb : c.code = cX5_rest) (hml : c.maxLocals = 5) (hts : ∀ w ∈ wsX5_rest, w.before args s = true) (hown : s.vm.findClass RX5 = some m.cls) (hG : gK dC dI k A s) (hA : ∀ q : Nat, s.heap.size ≤ q → A q) (F : Nat) (n_t n_text n_now n_past n_slots n_sightings n_survey n_trial n_now_rows n_survey_places n_survey_equations : Nat) (v_filledSlots : Int32) (v_seedNow : Int64) (v_now_size : Int32) (v_now_stations : Int32) (v_survey_divisor : Int64) (v_survey_squareSum : Int64) (r_now_rows : Nat → Int32) (r_survey_equations : Nat → Int64) (x1 : Int32) (x2 : Int32) (x3 : Int32) (o_r : Int64) (o_v_survey_divisor : (Int64)) (o_v_survey_squareSum : (Int64)) (o_r_survey_equations : (Nat → Int64)) (RET : ∀ (pc : Nat) (H : Heap) (locs : List Loc) (ls : Array Slot) (v : Int64) (q_v_survey_divisor : Int64) (q_v_survey_squareSum : Int64) (q_r_survey_equations : Nat → Int64), decode cX5_rest pc = .ok (.lreturn, 1) → some (v, q_v_survey_divisor, q_v_survey_squareSum, q_r_survey_equations) = some (o_r, o_v_survey_divisor, o_v_survey_squareSum, o_r_survey_equations) → va_P (dC, dI) vwCl (wd_92742b k n_t n_text n_now n_past n_slots n_sightings n_survey n_trial n_now_rows n_survey_places n_survey_equations v_filledSlots v_seedNow v_now_size v_now_stations q_v_survey_divisor q_v_survey_squareSum r_now_rows q_r_survey_equations) H → va_D A (wd_92742b k n_t n_text n_now n_past n_slots n_sightings n_survey n_trial n_now_rows n_survey_places n_survey_equations v_filledSlots v_seedNow v_now_size v_now_stations q_v_survey_divisor q_v_survey_squareSum r_now_rows q_r_survey_equations) → va_S A s.heap H locs → W p l e rm_X5_rest s m args below meth c H locs 0 0 Q (F0 m pc ls [.long v])) (H : Heap) (locs : List Loc) (ls : Array Slot) (hl : lv_has ls 5 [(0, .ref n_t), (1, .int x1), (2, .int x2), (3, .int x3)]) (hP : va_P (dC, dI) vwCl (wd_92742b k n_t n_text n_now n_past n_slots n_sightings n_survey n_trial n_now_rows n_survey_places n_survey_equations v_filledSlots v_seedNow v_now_size v_now_stations v_survey_divisor v_survey_squareSum r_now_rows r_survey_equations) H) (hD : va_D A (wd_92742b k n_t n_text n_now n_past n_slots n_sightings n_survey n_trial n_now_rows n_survey_places n_survey_equations v_filledSlots v_seedNow v_now_size v_now_stations v_survey_divisor v_survey_squareSum r_now_rows r_survey_equations)) (hS : va_S A s.heap H locs) (hm : f_X5_rest F x1 x2 x3 v_now_size r_now_rows v_survey_divisor v_survey_squareSum r_survey_equations = some (o_r, o_v_survey_divisor, o_v_survey_squareSum, o_r_survey_equations)) : W p l e rm_X5_rest s m args below meth c H locs 0 0 Q (F0 m 0 ls []) := by
  have hinX3 : ∀ w ∈ u_ws RX3 TX3 4, w ∈ wsX5_rest := by decide +kernel
  have hinX5 : ∀ w ∈ u_ws RX5 TX5 9, w ∈ wsX5_rest := by decide +kernel
  have k0 := hts (.fieldLink RX5 44 "CaveLegs" "survey" "LCaveLegs$Survey;") (by decide +kernel)
  have k1 := hts (.fieldLink RX5 19 "CaveLegs" "now" "LCaveLegs$Legs;") (by decide +kernel)
  have k2 := hts (.fieldLink RX5 146 "CaveLegs$Survey" "divisor" "J") (by decide +kernel)
  unfold f_X5_rest at hm
  refine lv_aload_n hx hb dX5_rest_0 rfl (lv_at hl 0 rfl) ?_
  refine lv_iload_n hx hb dX5_rest_1 rfl (lv_at hl 1 rfl) ?_
  refine lv_iload_n hx hb dX5_rest_2 rfl (lv_at hl 2 rfl) ?_
  obtain ⟨r1, e2, hm⟩ := bnd1_some hm
  refine g_calli (w2 := (wd_92742b k n_t n_text n_now n_past n_slots n_sightings n_survey n_trial n_now_rows n_survey_places n_survey_equations v_filledSlots v_seedNow v_now_size v_now_stations v_survey_divisor v_survey_squareSum r_now_rows r_survey_equations)) (va_runV (As := [.int x1, .int x2]) (rest := []) ⟨hx, hb, hml, hown, hts⟩ (m_X5_legError l dC dI k F H.size n_t n_text n_now n_past n_slots n_sightings n_survey n_trial n_now_rows v_filledSlots v_seedNow v_now_size v_now_stations r_now_rows x1 x2 e2) (cwV 2 hts gX5_rest_X5_legError rfl rfl rfl (by decide +kernel) ⟨Nat.le_of_ble_eq_true rfl, Nat.le_of_ble_eq_true rfl⟩) (g_preV hG hP hD hS hA [0, 1, 2] rfl (by decide) (ci := 5) (q0 := 0) rfl rfl) rfl rfl hl.1 rfl (lv_room (Nat.le_of_ble_eq_true rfl)) dX5_rest_3 ⟨Nat.le_of_ble_eq_true rfl, Nat.le_of_ble_eq_true rfl⟩) hP hD hS hA [0, 1, 2] [3, 4] [2, 3, 4, 0, 1] rfl rfl (by decide) (by decide) rfl (by decide) (fun H locs hP hD hS => ?_)
  refine lv_istore (lv' := [(4, .int r1), (0, .ref n_t), (1, .int x1), (2, .int x2), (3, .int x3)]) hx hb dX5_rest_6 hl (by decide) rfl (fun ls hl => ?_)
  refine lv_iload hx hb dX5_rest_8 (lv_at hl 0 rfl) ?_
  refine lv_bipush (v := (-9 : Int32)) hx hb dX5_rest_10 (by decide) ?_
  refine lv_icmp_eq (tgt := 19) hx hb dX5_rest_12 (by decide) (fun c3 => ?_) (fun c3 => ?_)
  · replace hm := ifp c3 hm
    refine lv_aload_n hx hb dX5_rest_19 rfl (lv_at hl 1 rfl) ?_
    refine va_get (D := (dC, dI)) (ci := 5) (v := .ref n_survey) (C := RX5) (T := TX5) (N := 9) hx hb hts hinX5 hown hG.1 hP 0 rfl rfl 5 (by decide) k0 (fun _ h9 => h9) rfl dX5_rest_20 ?_
    refine lv_aload_n hx hb dX5_rest_23 rfl (lv_at hl 1 rfl) ?_
    refine va_get (D := (dC, dI)) (ci := 5) (v := .ref n_now) (C := RX5) (T := TX5) (N := 9) hx hb hts hinX5 hown hG.1 hP 0 rfl rfl 1 (by decide) k1 (fun _ h9 => h9) rfl dX5_rest_24 ?_
    refine lv_aload_n hx hb dX5_rest_27 rfl (lv_at hl 1 rfl) ?_
    refine va_get (D := (dC, dI)) (ci := 5) (v := .ref n_now) (C := RX5) (T := TX5) (N := 9) hx hb hts hinX5 hown hG.1 hP 0 rfl rfl 1 (by decide) k1 (fun _ h9 => h9) rfl dX5_rest_28 ?_
    obtain ⟨r4, e5, hm⟩ := bnd1_some hm
    refine g_calli (w2 := (wd_92742b k n_t n_text n_now n_past n_slots n_sightings n_survey n_trial n_now_rows n_survey_places n_survey_equations v_filledSlots v_seedNow v_now_size v_now_stations v_survey_divisor v_survey_squareSum r_now_rows r_survey_equations)) (va_runV (As := []) (rest := [.ref n_now, .ref n_survey]) ⟨hx, hb, hml, hown, hts⟩ (m_X0_all l dC dI k H.size n_now n_now_rows v_now_size v_now_stations  e5) (cwV 0 hts gX5_rest_X0_all rfl rfl rfl (by decide +kernel) ⟨Nat.le_of_ble_eq_true rfl, Nat.le_of_ble_eq_true rfl⟩) (g_preV hG hP hD hS hA [1] rfl (by decide) (ci := 0) (q0 := 1) rfl rfl) rfl rfl hl.1 rfl (lv_room (Nat.le_of_ble_eq_true rfl)) dX5_rest_31 ⟨Nat.le_of_ble_eq_true rfl, Nat.le_of_ble_eq_true rfl⟩) hP hD hS hA [1] [0, 2, 3, 4] [0, 4, 1, 2, 3] rfl rfl (by decide) (by decide) rfl (by decide) (fun H locs hP hD hS => ?_)
    obtain ⟨w6, w7, w8, e9, hm⟩ := bnd3_some hm
    refine g_callv (w2 := (wd_92742b k n_t n_text n_now n_past n_slots n_sightings n_survey n_trial n_now_rows n_survey_places n_survey_equations v_filledSlots v_seedNow v_now_size v_now_stations w6 w7 r_now_rows w8)) (va_runV (As := [.ref n_now, .int r4]) (rest := []) ⟨hx, hb, hml, hown, hts⟩ (m_X3_adjust l dC dI k F H.size n_survey n_now n_survey_places n_survey_equations n_now_rows v_survey_divisor v_survey_squareSum v_now_size v_now_stations r_survey_equations r_now_rows r4 e9) (cwV 2 hts gX5_rest_X3_adjust rfl rfl rfl (by decide +kernel) ⟨Nat.le_of_ble_eq_true rfl, Nat.le_of_ble_eq_true rfl⟩) (g_preV hG hP hD hS hA [3, 4, 1, 2] rfl (by decide) (ci := 3) (q0 := 3) rfl rfl) rfl rfl hl.1 rfl (lv_room (Nat.le_of_ble_eq_true rfl)) dX5_rest_34 ⟨Nat.le_of_ble_eq_true rfl, Nat.le_of_ble_eq_true rfl⟩) hP hD hS hA [3, 4, 1, 2] [0] [0, 3, 4, 1, 2] rfl rfl (by decide) (by decide) rfl (by decide) (fun H locs hP hD hS => ?_)
    refine lv_aload_n hx hb dX5_rest_37 rfl (lv_at hl 1 rfl) ?_
    refine va_get (D := (dC, dI)) (ci := 5) (v := .ref n_survey) (C := RX5) (T := TX5) (N := 9) hx hb hts hinX5 hown hG.1 hP 0 rfl rfl 5 (by decide) k0 (fun _ h9 => h9) rfl dX5_rest_38 ?_
    refine lv_aload_n hx hb dX5_rest_41 rfl (lv_at hl 1 rfl) ?_
    refine va_get (D := (dC, dI)) (ci := 5) (v := .ref n_now) (C := RX5) (T := TX5) (N := 9) hx hb hts hinX5 hown hG.1 hP 0 rfl rfl 1 (by decide) k1 (fun _ h9 => h9) rfl dX5_rest_42 ?_
    refine lv_iload_n hx hb dX5_rest_45 rfl (lv_at hl 2 rfl) ?_
    refine lv_iload_n hx hb dX5_rest_46 rfl (lv_at hl 3 rfl) ?_
    obtain ⟨r10, e11, hm⟩ := bnd1_some hm
    refine g_calll (w2 := (wd_92742b k n_t n_text n_now n_past n_slots n_sightings n_survey n_trial n_now_rows n_survey_places n_survey_equations v_filledSlots v_seedNow v_now_size v_now_stations w6 w7 r_now_rows w8)) (va_runV (As := [.ref n_now, .int x1, .int x2]) (rest := []) ⟨hx, hb, hml, hown, hts⟩ (m_X3_residual l dC dI k H.size n_survey n_now n_survey_places n_survey_equations n_now_rows w6 w7 v_now_size v_now_stations w8 r_now_rows x1 x2 e11) (cwV 3 hts gX5_rest_X3_residual rfl rfl rfl (by decide +kernel) ⟨Nat.le_of_ble_eq_true rfl, Nat.le_of_ble_eq_true rfl⟩) (g_preV hG hP hD hS hA [3, 4, 1, 2] rfl (by decide) (ci := 3) (q0 := 3) rfl rfl) rfl rfl hl.1 rfl (lv_room (Nat.le_of_ble_eq_true rfl)) dX5_rest_47 ⟨Nat.le_of_ble_eq_true rfl, Nat.le_of_ble_eq_true rfl⟩) hP hD hS hA [3, 4, 1, 2] [0] [0, 3, 4, 1, 2] rfl rfl (by decide) (by decide) rfl (by decide) (fun H locs hP hD hS => ?_)
    refine lv_aload_n hx hb dX5_rest_50 rfl (lv_at hl 1 rfl) ?_
    refine va_get (D := (dC, dI)) (ci := 5) (v := .ref n_survey) (C := RX5) (T := TX5) (N := 9) hx hb hts hinX5 hown hG.1 hP 0 rfl rfl 5 (by decide) k0 (fun _ h9 => h9) rfl dX5_rest_51 ?_
    refine va_get (D := (dC, dI)) (ci := 3) (v := .long w6) (C := RX3) (T := TX3) (N := 4) hx hb hts hinX3 hown hG.1 hP 3 rfl rfl 2 (by decide) k2 (fun _ h9 => h9) rfl dX5_rest_54 ?_
    refine lv_iload_n hx hb dX5_rest_57 rfl (lv_at hl 4 rfl) ?_
    obtain ⟨r12, e13, hm⟩ := bnd1_some hm
    refine g_calll (w2 := (wd_92742b k n_t n_text n_now n_past n_slots n_sightings n_survey n_trial n_now_rows n_survey_places n_survey_equations v_filledSlots v_seedNow v_now_size v_now_stations w6 w7 r_now_rows w8)) (va_runS (As := [.long r10, .long w6, .int x3]) (rest := []) ⟨hx, hb, hml, hown, hts⟩ (m_X5_lowest l dC dI k F H.size  r10 w6 x3 e13) (va_cwS 3 hts gX5_rest_X5_lowest rfl rfl rfl (by decide +kernel) ⟨Nat.le_of_ble_eq_true rfl, Nat.le_of_ble_eq_true rfl⟩) (g_preS hG hP hD hS hA [] rfl (by decide)) rfl rfl hl.1 rfl (lv_room (Nat.le_of_ble_eq_true rfl)) dX5_rest_58 ⟨Nat.le_of_ble_eq_true rfl, Nat.le_of_ble_eq_true rfl⟩) hP hD hS hA [] [0, 1, 2, 3, 4] [0, 1, 2, 3, 4] rfl rfl (by decide) (by decide) rfl (by decide) (fun H locs hP hD hS => ?_)
    exact RET _ _ _ _ _ _ _ _ dX5_rest_61 hm hP hD hS
  · replace hm := ifn c3 hm
    refine lv_iload hx hb dX5_rest_15 (lv_at hl 0 rfl) ?_
    refine g_i2l hx hb dX5_rest_17 ?_
    exact RET _ _ _ _ _ _ _ _ dX5_rest_18 hm hP hD hS
set_option maxRecDepth 100000 in
theorem m_X5_rest (l : Launch) (dC : Nat → ClassId) (dI : Nat → Nat → Nat) (k : Nat → ClassId) (F : Nat) (sz : Nat) (n_t n_text n_now n_past n_slots n_sightings n_survey n_trial n_now_rows n_survey_places n_survey_equations : Nat) (v_filledSlots : Int32) (v_seedNow : Int64) (v_now_size : Int32) (v_now_stations : Int32) (v_survey_divisor : Int64) (v_survey_squareSum : Int64) (r_now_rows : Nat → Int32) (r_survey_equations : Nat → Int64) (x1 : Int32) (x2 : Int32) (x3 : Int32) {o_r : Int64} {o_v_survey_divisor : (Int64)} {o_v_survey_squareSum : (Int64)} {o_r_survey_equations : (Nat → Int64)} (hm : f_X5_rest F x1 x2 x3 v_now_size r_now_rows v_survey_divisor v_survey_squareSum r_survey_equations = some (o_r, o_v_survey_divisor, o_v_survey_squareSum, o_r_survey_equations)) : Met l yX5_rest wsX5_rest rm_X5_rest (gPre dC dI k [.ref n_t, .int x1, .int x2, .int x3] sz (wd_92742b k n_t n_text n_now n_past n_slots n_sightings n_survey n_trial n_now_rows n_survey_places n_survey_equations v_filledSlots v_seedNow v_now_size v_now_stations v_survey_divisor v_survey_squareSum r_now_rows r_survey_equations)) (gQL dC dI (va_A (wd_92742b k n_t n_text n_now n_past n_slots n_sightings n_survey n_trial n_now_rows n_survey_places n_survey_equations v_filledSlots v_seedNow v_now_size v_now_stations v_survey_divisor v_survey_squareSum r_now_rows r_survey_equations) sz) o_r (wd_92742b k n_t n_text n_now n_past n_slots n_sightings n_survey n_trial n_now_rows n_survey_places n_survey_equations v_filledSlots v_seedNow v_now_size v_now_stations o_v_survey_divisor o_v_survey_squareSum r_now_rows o_r_survey_equations)) 0 0 (va_A (wd_92742b k n_t n_text n_now n_past n_slots n_sightings n_survey n_trial n_now_rows n_survey_places n_survey_equations v_filledSlots v_seedNow v_now_size v_now_stations v_survey_divisor v_survey_squareSum r_now_rows r_survey_equations) sz) := by
  refine g_entry (cc := cX5_rest) (maxL := 5) (ret := (some .long)) (lv := [(0, .ref n_t), (1, .int x1), (2, .int x2), (3, .int x3)]) (by decide +kernel) rfl (Nat.le_of_ble_eq_true rfl) rfl (fun p e s m below meth c ls hx hb hr hml hts hown hlk hnm hsz hG hA hP hD hS hl => ?_)
  exact k_X5_rest hx hb hml hts hown hG hA F n_t n_text n_now n_past n_slots n_sightings n_survey n_trial n_now_rows n_survey_places n_survey_equations v_filledSlots v_seedNow v_now_size v_now_stations v_survey_divisor v_survey_squareSum r_now_rows r_survey_equations x1 x2 x3 o_r o_v_survey_divisor o_v_survey_squareSum o_r_survey_equations (fun pc H locs ls v q_v_survey_divisor q_v_survey_squareSum q_r_survey_equations hd ho hP hD hS => by cases ho; exact g_lret hx hb hr hlk hP hD hS hd) s.heap [] ls hl hP hD hS hm
end
section
set_option maxHeartbeats 4000000 in
set_option maxRecDepth 100000 in
theorem k_X5_squares {p : Program} {l : Launch} {e : Env} {s : State} {m : MethodId} {args : Array Value} {below : List Frame} {meth : Method} {c : Code} {A : Nat → Prop} {Q : State → Prop} {dC : Nat → ClassId} {dI : Nat → Nat → Nat} {k : Nat → ClassId} (hx : p.tables.exec = Jvm.exec) (hb : c.code = cX5_squares) (hml : c.maxLocals = 2) (hts : ∀ w ∈ wsX5_squares, w.before args s = true) (hown : s.vm.findClass RX5 = some m.cls) (hG : gK dC dI k A s) (hA : ∀ q : Nat, s.heap.size ≤ q → A q) (F : Nat) (n_t n_text n_now n_past n_slots n_sightings n_survey n_trial n_now_rows n_survey_places n_survey_equations : Nat) (v_filledSlots : Int32) (v_seedNow : Int64) (v_now_size : Int32) (v_now_stations : Int32) (v_survey_divisor : Int64) (v_survey_squareSum : Int64) (r_now_rows : Nat → Int32) (r_survey_equations : Nat → Int64) (x1 : Int32) (o_r : Int64) (o_v_survey_divisor : (Int64)) (o_v_survey_squareSum : (Int64)) (o_r_survey_equations : (Nat → Int64)) (RET : ∀ (pc : Nat) (H : Heap) (locs : List Loc) (ls : Array Slot) (v : Int64) (q_v_survey_divisor : Int64) (q_v_survey_squareSum : Int64) (q_r_survey_equations : Nat → Int64), decode cX5_squares pc = .ok (.lreturn, 1) → some (v, q_v_survey_divisor, q_v_survey_squareSum, q_r_survey_equations) = some (o_r, o_v_survey_divisor, o_v_survey_squareSum, o_r_survey_equations) → va_P (dC, dI) vwCl (wd_92742b k n_t n_text n_now n_past n_slots n_sightings n_survey n_trial n_now_rows n_survey_places n_survey_equations v_filledSlots v_seedNow v_now_size v_now_stations q_v_survey_divisor q_v_survey_squareSum r_now_rows q_r_survey_equations) H → va_D A (wd_92742b k n_t n_text n_now n_past n_slots n_sightings n_survey n_trial n_now_rows n_survey_places n_survey_equations v_filledSlots v_seedNow v_now_size v_now_stations q_v_survey_divisor q_v_survey_squareSum r_now_rows q_r_survey_equations) → va_S A s.heap H locs → W p l e rm_X5_squares s m args below meth c H locs 0 0 Q (F0 m pc ls [.long v])) (H : Heap) (locs : List Loc) (ls : Array Slot) (hl : lv_has ls 2 [(0, .ref n_t), (1, .int x1)]) (hP : va_P (dC, dI) vwCl (wd_92742b k n_t n_text n_now n_past n_slots n_sightings n_survey n_trial n_now_rows n_survey_places n_survey_equations v_filledSlots v_seedNow v_now_size v_now_stations v_survey_divisor v_survey_squareSum r_now_rows r_survey_equations) H) (hD : va_D A (wd_92742b k n_t n_text n_now n_past n_slots n_sightings n_survey n_trial n_now_rows n_survey_places n_survey_equations v_filledSlots v_seedNow v_now_size v_now_stations v_survey_divisor v_survey_squareSum r_now_rows r_survey_equations)) (hS : va_S A s.heap H locs) (hm : f_X5_squares F x1 v_now_size r_now_rows v_survey_divisor v_survey_squareSum r_survey_equations = some (o_r, o_v_survey_divisor, o_v_survey_squareSum, o_r_survey_equations)) : W p l e rm_X5_squares s m args below meth c H locs 0 0 Q (F0 m 0 ls []) := by
  have hinX3 : ∀ w ∈ u_ws RX3 TX3 4, w ∈ wsX5_squares := by decide +kernel
  have hinX5 : ∀ w ∈ u_ws RX5 TX5 9, w ∈ wsX5_squares := by decide +kernel
  have k0 := hts (.fieldLink RX5 44 "CaveLegs" "survey" "LCaveLegs$Survey;") (by decide +kernel)
  have k1 := hts (.fieldLink RX5 19 "CaveLegs" "now" "LCaveLegs$Legs;") (by decide +kernel)
  have k2 := hts (.fieldLink RX5 158 "CaveLegs$Survey" "squareSum" "J") (by decide +kernel)
  have k3 := hts (.fieldLink RX5 146 "CaveLegs$Survey" "divisor" "J") (by decide +kernel)
  unfold f_X5_squares at hm
  refine lv_aload_n hx hb dX5_squares_0 rfl (lv_at hl 0 rfl) ?_
  refine va_get (D := (dC, dI)) (ci := 5) (v := .ref n_survey) (C := RX5) (T := TX5) (N := 9) hx hb hts hinX5 hown hG.1 hP 0 rfl rfl 5 (by decide) k0 (fun _ h9 => h9) rfl dX5_squares_1 ?_
  refine lv_aload_n hx hb dX5_squares_4 rfl (lv_at hl 0 rfl) ?_
  refine va_get (D := (dC, dI)) (ci := 5) (v := .ref n_now) (C := RX5) (T := TX5) (N := 9) hx hb hts hinX5 hown hG.1 hP 0 rfl rfl 1 (by decide) k1 (fun _ h9 => h9) rfl dX5_squares_5 ?_
  refine lv_aload_n hx hb dX5_squares_8 rfl (lv_at hl 0 rfl) ?_
  refine va_get (D := (dC, dI)) (ci := 5) (v := .ref n_now) (C := RX5) (T := TX5) (N := 9) hx hb hts hinX5 hown hG.1 hP 0 rfl rfl 1 (by decide) k1 (fun _ h9 => h9) rfl dX5_squares_9 ?_
  obtain ⟨r1, e2, hm⟩ := bnd1_some hm
  refine g_calli (w2 := (wd_92742b k n_t n_text n_now n_past n_slots n_sightings n_survey n_trial n_now_rows n_survey_places n_survey_equations v_filledSlots v_seedNow v_now_size v_now_stations v_survey_divisor v_survey_squareSum r_now_rows r_survey_equations)) (va_runV (As := []) (rest := [.ref n_now, .ref n_survey]) ⟨hx, hb, hml, hown, hts⟩ (m_X0_all l dC dI k H.size n_now n_now_rows v_now_size v_now_stations  e2) (cwV 0 hts gX5_squares_X0_all rfl rfl rfl (by decide +kernel) ⟨Nat.le_of_ble_eq_true rfl, Nat.le_of_ble_eq_true rfl⟩) (g_preV hG hP hD hS hA [1] rfl (by decide) (ci := 0) (q0 := 1) rfl rfl) rfl rfl hl.1 rfl (lv_room (Nat.le_of_ble_eq_true rfl)) dX5_squares_12 ⟨Nat.le_of_ble_eq_true rfl, Nat.le_of_ble_eq_true rfl⟩) hP hD hS hA [1] [0, 2, 3, 4] [0, 4, 1, 2, 3] rfl rfl (by decide) (by decide) rfl (by decide) (fun H locs hP hD hS => ?_)
  obtain ⟨w3, w4, w5, e6, hm⟩ := bnd3_some hm
  refine g_callv (w2 := (wd_92742b k n_t n_text n_now n_past n_slots n_sightings n_survey n_trial n_now_rows n_survey_places n_survey_equations v_filledSlots v_seedNow v_now_size v_now_stations w3 w4 r_now_rows w5)) (va_runV (As := [.ref n_now, .int r1]) (rest := []) ⟨hx, hb, hml, hown, hts⟩ (m_X3_adjust l dC dI k F H.size n_survey n_now n_survey_places n_survey_equations n_now_rows v_survey_divisor v_survey_squareSum v_now_size v_now_stations r_survey_equations r_now_rows r1 e6) (cwV 2 hts gX5_squares_X3_adjust rfl rfl rfl (by decide +kernel) ⟨Nat.le_of_ble_eq_true rfl, Nat.le_of_ble_eq_true rfl⟩) (g_preV hG hP hD hS hA [3, 4, 1, 2] rfl (by decide) (ci := 3) (q0 := 3) rfl rfl) rfl rfl hl.1 rfl (lv_room (Nat.le_of_ble_eq_true rfl)) dX5_squares_15 ⟨Nat.le_of_ble_eq_true rfl, Nat.le_of_ble_eq_true rfl⟩) hP hD hS hA [3, 4, 1, 2] [0] [0, 3, 4, 1, 2] rfl rfl (by decide) (by decide) rfl (by decide) (fun H locs hP hD hS => ?_)
  refine lv_aload_n hx hb dX5_squares_18 rfl (lv_at hl 0 rfl) ?_
  refine va_get (D := (dC, dI)) (ci := 5) (v := .ref n_survey) (C := RX5) (T := TX5) (N := 9) hx hb hts hinX5 hown hG.1 hP 0 rfl rfl 5 (by decide) k0 (fun _ h9 => h9) rfl dX5_squares_19 ?_
  refine va_get (D := (dC, dI)) (ci := 3) (v := .long w4) (C := RX3) (T := TX3) (N := 4) hx hb hts hinX3 hown hG.1 hP 3 rfl rfl 3 (by decide) k2 (fun _ h9 => h9) rfl dX5_squares_22 ?_
  refine lv_aload_n hx hb dX5_squares_25 rfl (lv_at hl 0 rfl) ?_
  refine va_get (D := (dC, dI)) (ci := 5) (v := .ref n_survey) (C := RX5) (T := TX5) (N := 9) hx hb hts hinX5 hown hG.1 hP 0 rfl rfl 5 (by decide) k0 (fun _ h9 => h9) rfl dX5_squares_26 ?_
  refine va_get (D := (dC, dI)) (ci := 3) (v := .long w3) (C := RX3) (T := TX3) (N := 4) hx hb hts hinX3 hown hG.1 hP 3 rfl rfl 2 (by decide) k3 (fun _ h9 => h9) rfl dX5_squares_29 ?_
  refine lv_aload_n hx hb dX5_squares_32 rfl (lv_at hl 0 rfl) ?_
  refine va_get (D := (dC, dI)) (ci := 5) (v := .ref n_survey) (C := RX5) (T := TX5) (N := 9) hx hb hts hinX5 hown hG.1 hP 0 rfl rfl 5 (by decide) k0 (fun _ h9 => h9) rfl dX5_squares_33 ?_
  refine va_get (D := (dC, dI)) (ci := 3) (v := .long w3) (C := RX3) (T := TX3) (N := 4) hx hb hts hinX3 hown hG.1 hP 3 rfl rfl 2 (by decide) k3 (fun _ h9 => h9) rfl dX5_squares_36 ?_
  refine lv_lmul hx hb dX5_squares_39 ?_
  refine lv_iload_n hx hb dX5_squares_40 rfl (lv_at hl 1 rfl) ?_
  obtain ⟨r7, e8, hm⟩ := bnd1_some hm
  refine g_calll (w2 := (wd_92742b k n_t n_text n_now n_past n_slots n_sightings n_survey n_trial n_now_rows n_survey_places n_survey_equations v_filledSlots v_seedNow v_now_size v_now_stations w3 w4 r_now_rows w5)) (va_runS (As := [.long w4, .long (w3 * w3), .int x1]) (rest := []) ⟨hx, hb, hml, hown, hts⟩ (m_X5_lowest l dC dI k F H.size  w4 (w3 * w3) x1 e8) (va_cwS 3 hts gX5_squares_X5_lowest rfl rfl rfl (by decide +kernel) ⟨Nat.le_of_ble_eq_true rfl, Nat.le_of_ble_eq_true rfl⟩) (g_preS hG hP hD hS hA [] rfl (by decide)) rfl rfl hl.1 rfl (lv_room (Nat.le_of_ble_eq_true rfl)) dX5_squares_41 ⟨Nat.le_of_ble_eq_true rfl, Nat.le_of_ble_eq_true rfl⟩) hP hD hS hA [] [0, 1, 2, 3, 4] [0, 1, 2, 3, 4] rfl rfl (by decide) (by decide) rfl (by decide) (fun H locs hP hD hS => ?_)
  exact RET _ _ _ _ _ _ _ _ dX5_squares_44 hm hP hD hS
set_option maxRecDepth 100000 in
theorem m_X5_squares (l : Launch) (dC : Nat → ClassId) (dI : Nat → Nat → Nat) (k : Nat → ClassId) (F : Nat) (sz : Nat) (n_t n_text n_now n_past n_slots n_sightings n_survey n_trial n_now_rows n_survey_places n_survey_equations : Nat) (v_filledSlots : Int32) (v_seedNow : Int64) (v_now_size : Int32) (v_now_stations : Int32) (v_survey_divisor : Int64) (v_survey_squareSum : Int64) (r_now_rows : Nat → Int32) (r_survey_equations : Nat → Int64) (x1 : Int32) {o_r : Int64} {o_v_survey_divisor : (Int64)} {o_v_survey_squareSum : (Int64)} {o_r_survey_equations : (Nat → Int64)} (hm : f_X5_squares F x1 v_now_size r_now_rows v_survey_divisor v_survey_squareSum r_survey_equations = some (o_r, o_v_survey_divisor, o_v_survey_squareSum, o_r_survey_equations)) : Met l yX5_squares wsX5_squares rm_X5_squares (gPre dC dI k [.ref n_t, .int x1] sz (wd_92742b k n_t n_text n_now n_past n_slots n_sightings n_survey n_trial n_now_rows n_survey_places n_survey_equations v_filledSlots v_seedNow v_now_size v_now_stations v_survey_divisor v_survey_squareSum r_now_rows r_survey_equations)) (gQL dC dI (va_A (wd_92742b k n_t n_text n_now n_past n_slots n_sightings n_survey n_trial n_now_rows n_survey_places n_survey_equations v_filledSlots v_seedNow v_now_size v_now_stations v_survey_divisor v_survey_squareSum r_now_rows r_survey_equations) sz) o_r (wd_92742b k n_t n_text n_now n_past n_slots n_sightings n_survey n_trial n_now_rows n_survey_places n_survey_equations v_filledSlots v_seedNow v_now_size v_now_stations o_v_survey_divisor o_v_survey_squareSum r_now_rows o_r_survey_equations)) 0 0 (va_A (wd_92742b k n_t n_text n_now n_past n_slots n_sightings n_survey n_trial n_now_rows n_survey_places n_survey_equations v_filledSlots v_seedNow v_now_size v_now_stations v_survey_divisor v_survey_squareSum r_now_rows r_survey_equations) sz) := by
  refine g_entry (cc := cX5_squares) (maxL := 2) (ret := (some .long)) (lv := [(0, .ref n_t), (1, .int x1)]) (by decide +kernel) rfl (Nat.le_of_ble_eq_true rfl) rfl (fun p e s m below meth c ls hx hb hr hml hts hown hlk hnm hsz hG hA hP hD hS hl => ?_)
  exact k_X5_squares hx hb hml hts hown hG hA F n_t n_text n_now n_past n_slots n_sightings n_survey n_trial n_now_rows n_survey_places n_survey_equations v_filledSlots v_seedNow v_now_size v_now_stations v_survey_divisor v_survey_squareSum r_now_rows r_survey_equations x1 o_r o_v_survey_divisor o_v_survey_squareSum o_r_survey_equations (fun pc H locs ls v q_v_survey_divisor q_v_survey_squareSum q_r_survey_equations hd ho hP hD hS => by cases ho; exact g_lret hx hb hr hlk hP hD hS hd) s.heap [] ls hl hP hD hS hm
end
section
set_option maxHeartbeats 4000000 in
set_option maxRecDepth 100000 in
theorem k_X5_ask {p : Program} {l : Launch} {e : Env} {s : State} {m : MethodId} {args : Array Value} {below : List Frame} {meth : Method} {c : Code} {A : Nat → Prop} {Q : State → Prop} {dC : Nat → ClassId} {dI : Nat → Nat → Nat} {k : Nat → ClassId} (hx : p.tables.exec = Jvm.exec) (hb : c.code = cX5_ask) (hml : c.maxLocals = 2) (hts : ∀ w ∈ wsX5_ask, w.before args s = true) (hown : s.vm.findClass RX5 = some m.cls) (hG : gK dC dI k A s) (hA : ∀ q : Nat, s.heap.size ≤ q → A q) (F : Nat) (n_t n_text n_now n_past n_slots n_sightings n_survey n_trial n_now_rows n_survey_places n_survey_equations : Nat) (v_filledSlots : Int32) (v_seedNow : Int64) (v_now_size : Int32) (v_now_stations : Int32) (v_survey_divisor : Int64) (v_survey_squareSum : Int64) (r_now_rows : Nat → Int32) (r_survey_equations : Nat → Int64) (x1 : Int32) (o_r : Int32) (o_v_survey_divisor : (Int64)) (o_v_survey_squareSum : (Int64)) (o_r_survey_equations : (Nat → Int64)) (RET : ∀ (pc : Nat) (H : Heap) (locs : List Loc) (ls : Array Slot) (v : Int32) (q_v_survey_divisor : Int64) (q_v_survey_squareSum : Int64) (q_r_survey_equations : Nat → Int64), decode cX5_ask pc = .ok (.ireturn, 1) → some (v, q_v_survey_divisor, q_v_survey_squareSum, q_r_survey_equations) = some (o_r, o_v_survey_divisor, o_v_survey_squareSum, o_r_survey_equations) → va_P (dC, dI) vwCl (wd_92742b k n_t n_text n_now n_past n_slots n_sightings n_survey n_trial n_now_rows n_survey_places n_survey_equations v_filledSlots v_seedNow v_now_size v_now_stations q_v_survey_divisor q_v_survey_squareSum r_now_rows q_r_survey_equations) H → va_D A (wd_92742b k n_t n_text n_now n_past n_slots n_sightings n_survey n_trial n_now_rows n_survey_places n_survey_equations v_filledSlots v_seedNow v_now_size v_now_stations q_v_survey_divisor q_v_survey_squareSum r_now_rows q_r_survey_equations) → va_S A s.heap H locs → W p l e rm_X5_ask s m args below meth c H locs 0 0 Q (F0 m pc ls [.int v])) (H : Heap) (locs : List Loc) (ls : Array Slot) (hl : lv_has ls 2 [(0, .ref n_t), (1, .int x1)]) (hP : va_P (dC, dI) vwCl (wd_92742b k n_t n_text n_now n_past n_slots n_sightings n_survey n_trial n_now_rows n_survey_places n_survey_equations v_filledSlots v_seedNow v_now_size v_now_stations v_survey_divisor v_survey_squareSum r_now_rows r_survey_equations) H) (hD : va_D A (wd_92742b k n_t n_text n_now n_past n_slots n_sightings n_survey n_trial n_now_rows n_survey_places n_survey_equations v_filledSlots v_seedNow v_now_size v_now_stations v_survey_divisor v_survey_squareSum r_now_rows r_survey_equations)) (hS : va_S A s.heap H locs) (hm : f_X5_ask F x1 v_now_size r_now_rows v_survey_divisor v_survey_squareSum r_survey_equations = some (o_r, o_v_survey_divisor, o_v_survey_squareSum, o_r_survey_equations)) : W p l e rm_X5_ask s m args below meth c H locs 0 0 Q (F0 m 0 ls []) := by
  have hinX5 : ∀ w ∈ u_ws RX5 TX5 9, w ∈ wsX5_ask := by decide +kernel
  have k0 := hts (.fieldLink RX5 19 "CaveLegs" "now" "LCaveLegs$Legs;") (by decide +kernel)
  have k1 := hts (.fieldLink RX5 44 "CaveLegs" "survey" "LCaveLegs$Survey;") (by decide +kernel)
  unfold f_X5_ask at hm
  refine lv_iload_n hx hb dX5_ask_0 rfl (lv_at hl 1 rfl) ?_
  by_cases c1 : x1 = (0 : Int32)
  · replace hm := ifp c1 hm
    refine lv_tableIn (off := 31) (tgt := 32) hx hb dX5_ask_1 (by rw [c1]; decide) (by rw [c1]; decide) (by rw [c1]; rfl) (by decide) ?_
    refine lv_aload_n hx hb dX5_ask_32 rfl (lv_at hl 0 rfl) ?_
    refine va_get (D := (dC, dI)) (ci := 5) (v := .ref n_now) (C := RX5) (T := TX5) (N := 9) hx hb hts hinX5 hown hG.1 hP 0 rfl rfl 1 (by decide) k0 (fun _ h9 => h9) rfl dX5_ask_33 ?_
    obtain ⟨r2, e3, hm⟩ := bnd1_some hm
    refine g_calli (w2 := (wd_92742b k n_t n_text n_now n_past n_slots n_sightings n_survey n_trial n_now_rows n_survey_places n_survey_equations v_filledSlots v_seedNow v_now_size v_now_stations v_survey_divisor v_survey_squareSum r_now_rows r_survey_equations)) (va_runV (As := []) (rest := []) ⟨hx, hb, hml, hown, hts⟩ (m_X0_connected l dC dI k F H.size n_now n_now_rows v_now_size v_now_stations r_now_rows  e3) (cwV 0 hts gX5_ask_X0_connected rfl rfl rfl (by decide +kernel) ⟨Nat.le_of_ble_eq_true rfl, Nat.le_of_ble_eq_true rfl⟩) (g_preV hG hP hD hS hA [1, 2] rfl (by decide) (ci := 0) (q0 := 1) rfl rfl) rfl rfl hl.1 rfl (lv_room (Nat.le_of_ble_eq_true rfl)) dX5_ask_36 ⟨Nat.le_of_ble_eq_true rfl, Nat.le_of_ble_eq_true rfl⟩) hP hD hS hA [1, 2] [0, 3, 4] [0, 3, 4, 1, 2] rfl rfl (by decide) (by decide) rfl (by decide) (fun H locs hP hD hS => ?_)
    exact RET _ _ _ _ _ _ _ _ dX5_ask_39 hm hP hD hS
  · replace hm := ifn c1 hm
    by_cases c4 : x1 = (1 : Int32)
    · replace hm := ifp c4 hm
      refine lv_tableIn (off := 39) (tgt := 40) hx hb dX5_ask_1 (by rw [c4]; decide) (by rw [c4]; decide) (by rw [c4]; rfl) (by decide) ?_
      refine lv_aload_n hx hb dX5_ask_40 rfl (lv_at hl 0 rfl) ?_
      refine va_get (D := (dC, dI)) (ci := 5) (v := .ref n_now) (C := RX5) (T := TX5) (N := 9) hx hb hts hinX5 hown hG.1 hP 0 rfl rfl 1 (by decide) k0 (fun _ h9 => h9) rfl dX5_ask_41 ?_
      obtain ⟨r5, e6, hm⟩ := bnd1_some hm
      refine g_calli (w2 := (wd_92742b k n_t n_text n_now n_past n_slots n_sightings n_survey n_trial n_now_rows n_survey_places n_survey_equations v_filledSlots v_seedNow v_now_size v_now_stations v_survey_divisor v_survey_squareSum r_now_rows r_survey_equations)) (va_runV (As := []) (rest := []) ⟨hx, hb, hml, hown, hts⟩ (m_X0_loops l dC dI k F H.size n_now n_now_rows v_now_size v_now_stations r_now_rows  e6) (cwV 0 hts gX5_ask_X0_loops rfl rfl rfl (by decide +kernel) ⟨Nat.le_of_ble_eq_true rfl, Nat.le_of_ble_eq_true rfl⟩) (g_preV hG hP hD hS hA [1, 2] rfl (by decide) (ci := 0) (q0 := 1) rfl rfl) rfl rfl hl.1 rfl (lv_room (Nat.le_of_ble_eq_true rfl)) dX5_ask_44 ⟨Nat.le_of_ble_eq_true rfl, Nat.le_of_ble_eq_true rfl⟩) hP hD hS hA [1, 2] [0, 3, 4] [0, 3, 4, 1, 2] rfl rfl (by decide) (by decide) rfl (by decide) (fun H locs hP hD hS => ?_)
      exact RET _ _ _ _ _ _ _ _ dX5_ask_47 hm hP hD hS
    · replace hm := ifn c4 hm
      by_cases c7 : x1 = (2 : Int32)
      · replace hm := ifp c7 hm
        refine lv_tableIn (off := 47) (tgt := 48) hx hb dX5_ask_1 (by rw [c7]; decide) (by rw [c7]; decide) (by rw [c7]; rfl) (by decide) ?_
        refine lv_aload_n hx hb dX5_ask_48 rfl (lv_at hl 0 rfl) ?_
        refine va_get (D := (dC, dI)) (ci := 5) (v := .ref n_survey) (C := RX5) (T := TX5) (N := 9) hx hb hts hinX5 hown hG.1 hP 0 rfl rfl 5 (by decide) k1 (fun _ h9 => h9) rfl dX5_ask_49 ?_
        refine lv_aload_n hx hb dX5_ask_52 rfl (lv_at hl 0 rfl) ?_
        refine va_get (D := (dC, dI)) (ci := 5) (v := .ref n_now) (C := RX5) (T := TX5) (N := 9) hx hb hts hinX5 hown hG.1 hP 0 rfl rfl 1 (by decide) k0 (fun _ h9 => h9) rfl dX5_ask_53 ?_
        obtain ⟨r8, w9, w10, w11, e12, hm⟩ := bnd4_some hm
        refine g_calli (w2 := (wd_92742b k n_t n_text n_now n_past n_slots n_sightings n_survey n_trial n_now_rows n_survey_places n_survey_equations v_filledSlots v_seedNow v_now_size v_now_stations w9 w10 r_now_rows w11)) (va_runV (As := [.ref n_now]) (rest := []) ⟨hx, hb, hml, hown, hts⟩ (m_X3_blunder l dC dI k F H.size n_survey n_now n_survey_places n_survey_equations n_now_rows v_survey_divisor v_survey_squareSum v_now_size v_now_stations r_survey_equations r_now_rows  e12) (cwV 1 hts gX5_ask_X3_blunder rfl rfl rfl (by decide +kernel) ⟨Nat.le_of_ble_eq_true rfl, Nat.le_of_ble_eq_true rfl⟩) (g_preV hG hP hD hS hA [3, 4, 1, 2] rfl (by decide) (ci := 3) (q0 := 3) rfl rfl) rfl rfl hl.1 rfl (lv_room (Nat.le_of_ble_eq_true rfl)) dX5_ask_56 ⟨Nat.le_of_ble_eq_true rfl, Nat.le_of_ble_eq_true rfl⟩) hP hD hS hA [3, 4, 1, 2] [0] [0, 3, 4, 1, 2] rfl rfl (by decide) (by decide) rfl (by decide) (fun H locs hP hD hS => ?_)
        exact RET _ _ _ _ _ _ _ _ dX5_ask_59 hm hP hD hS
      · replace hm := ifn c7 hm
        by_cases c13 : x1 = (3 : Int32)
        · replace hm := ifp c13 hm
          refine lv_tableIn (off := 59) (tgt := 60) hx hb dX5_ask_1 (by rw [c13]; decide) (by rw [c13]; decide) (by rw [c13]; rfl) (by decide) ?_
          refine lv_aload_n hx hb dX5_ask_60 rfl (lv_at hl 0 rfl) ?_
          refine va_get (D := (dC, dI)) (ci := 5) (v := .ref n_survey) (C := RX5) (T := TX5) (N := 9) hx hb hts hinX5 hown hG.1 hP 0 rfl rfl 5 (by decide) k1 (fun _ h9 => h9) rfl dX5_ask_61 ?_
          refine lv_aload_n hx hb dX5_ask_64 rfl (lv_at hl 0 rfl) ?_
          refine va_get (D := (dC, dI)) (ci := 5) (v := .ref n_now) (C := RX5) (T := TX5) (N := 9) hx hb hts hinX5 hown hG.1 hP 0 rfl rfl 1 (by decide) k0 (fun _ h9 => h9) rfl dX5_ask_65 ?_
          obtain ⟨r14, w15, w16, w17, e18, hm⟩ := bnd4_some hm
          refine g_calli (w2 := (wd_92742b k n_t n_text n_now n_past n_slots n_sightings n_survey n_trial n_now_rows n_survey_places n_survey_equations v_filledSlots v_seedNow v_now_size v_now_stations w15 w16 r_now_rows w17)) (va_runV (As := [.ref n_now]) (rest := []) ⟨hx, hb, hml, hown, hts⟩ (m_X3_menders l dC dI k F H.size n_survey n_now n_survey_places n_survey_equations n_now_rows v_survey_divisor v_survey_squareSum v_now_size v_now_stations r_survey_equations r_now_rows  e18) (cwV 1 hts gX5_ask_X3_menders rfl rfl rfl (by decide +kernel) ⟨Nat.le_of_ble_eq_true rfl, Nat.le_of_ble_eq_true rfl⟩) (g_preV hG hP hD hS hA [3, 4, 1, 2] rfl (by decide) (ci := 3) (q0 := 3) rfl rfl) rfl rfl hl.1 rfl (lv_room (Nat.le_of_ble_eq_true rfl)) dX5_ask_68 ⟨Nat.le_of_ble_eq_true rfl, Nat.le_of_ble_eq_true rfl⟩) hP hD hS hA [3, 4, 1, 2] [0] [0, 3, 4, 1, 2] rfl rfl (by decide) (by decide) rfl (by decide) (fun H locs hP hD hS => ?_)
          exact RET _ _ _ _ _ _ _ _ dX5_ask_71 hm hP hD hS
        · replace hm := ifn c13 hm
          refine lv_tableOut (tgt := 72) hx hb dX5_ask_1 (by have qc1 := i32_ne c1 (z := 0) (by decide); have qc4 := i32_ne c4 (z := 1) (by decide); have qc7 := i32_ne c7 (z := 2) (by decide); have qc13 := i32_ne c13 (z := 3) (by decide); omega) (by decide) ?_
          refine lv_bipush (v := (-2 : Int32)) hx hb dX5_ask_72 (by decide) ?_
          exact RET _ _ _ _ _ _ _ _ dX5_ask_74 hm hP hD hS
set_option maxRecDepth 100000 in
theorem m_X5_ask (l : Launch) (dC : Nat → ClassId) (dI : Nat → Nat → Nat) (k : Nat → ClassId) (F : Nat) (sz : Nat) (n_t n_text n_now n_past n_slots n_sightings n_survey n_trial n_now_rows n_survey_places n_survey_equations : Nat) (v_filledSlots : Int32) (v_seedNow : Int64) (v_now_size : Int32) (v_now_stations : Int32) (v_survey_divisor : Int64) (v_survey_squareSum : Int64) (r_now_rows : Nat → Int32) (r_survey_equations : Nat → Int64) (x1 : Int32) {o_r : Int32} {o_v_survey_divisor : (Int64)} {o_v_survey_squareSum : (Int64)} {o_r_survey_equations : (Nat → Int64)} (hm : f_X5_ask F x1 v_now_size r_now_rows v_survey_divisor v_survey_squareSum r_survey_equations = some (o_r, o_v_survey_divisor, o_v_survey_squareSum, o_r_survey_equations)) : Met l yX5_ask wsX5_ask rm_X5_ask (gPre dC dI k [.ref n_t, .int x1] sz (wd_92742b k n_t n_text n_now n_past n_slots n_sightings n_survey n_trial n_now_rows n_survey_places n_survey_equations v_filledSlots v_seedNow v_now_size v_now_stations v_survey_divisor v_survey_squareSum r_now_rows r_survey_equations)) (gQI dC dI (va_A (wd_92742b k n_t n_text n_now n_past n_slots n_sightings n_survey n_trial n_now_rows n_survey_places n_survey_equations v_filledSlots v_seedNow v_now_size v_now_stations v_survey_divisor v_survey_squareSum r_now_rows r_survey_equations) sz) o_r (wd_92742b k n_t n_text n_now n_past n_slots n_sightings n_survey n_trial n_now_rows n_survey_places n_survey_equations v_filledSlots v_seedNow v_now_size v_now_stations o_v_survey_divisor o_v_survey_squareSum r_now_rows o_r_survey_equations)) 0 0 (va_A (wd_92742b k n_t n_text n_now n_past n_slots n_sightings n_survey n_trial n_now_rows n_survey_places n_survey_equations v_filledSlots v_seedNow v_now_size v_now_stations v_survey_divisor v_survey_squareSum r_now_rows r_survey_equations) sz) := by
  refine g_entry (cc := cX5_ask) (maxL := 2) (ret := (some .int)) (lv := [(0, .ref n_t), (1, .int x1)]) (by decide +kernel) rfl (Nat.le_of_ble_eq_true rfl) rfl (fun p e s m below meth c ls hx hb hr hml hts hown hlk hnm hsz hG hA hP hD hS hl => ?_)
  exact k_X5_ask hx hb hml hts hown hG hA F n_t n_text n_now n_past n_slots n_sightings n_survey n_trial n_now_rows n_survey_places n_survey_equations v_filledSlots v_seedNow v_now_size v_now_stations v_survey_divisor v_survey_squareSum r_now_rows r_survey_equations x1 o_r o_v_survey_divisor o_v_survey_squareSum o_r_survey_equations (fun pc H locs ls v q_v_survey_divisor q_v_survey_squareSum q_r_survey_equations hd ho hP hD hS => by cases ho; exact g_ireti hx hb hr hlk hP hD hS hd) s.heap [] ls hl hP hD hS hm
end
section
set_option maxHeartbeats 4000000 in
set_option maxRecDepth 100000 in
theorem k_X5_widest {p : Program} {l : Launch} {e : Env} {s : State} {m : MethodId} {args : Array Value} {below : List Frame} {meth : Method} {c : Code} {A : Nat → Prop} {Q : State → Prop} {dC : Nat → ClassId} {dI : Nat → Nat → Nat} {k : Nat → ClassId} (hx : p.tables.exec = Jvm.exec) (hb : c.code = cX5_widest) (hml : c.maxLocals = 3) (hts : ∀ w ∈ wsX5_widest, w.before args s = true) (hown : s.vm.findClass RX5 = some m.cls) (hG : gK dC dI k A s) (hA : ∀ q : Nat, s.heap.size ≤ q → A q) (F : Nat) (n_t n_text n_now n_past n_slots n_sightings n_survey n_trial n_now_rows : Nat) (v_filledSlots : Int32) (v_seedNow : Int64) (v_now_size : Int32) (v_now_stations : Int32) (r_now_rows : Nat → Int32) (x1 : Int32) (x2 : Int32) (o_r : Int32) (RET : ∀ (pc : Nat) (H : Heap) (locs : List Loc) (ls : Array Slot) (v : Int32), decode cX5_widest pc = .ok (.ireturn, 1) → some v = some o_r → va_P (dC, dI) vwCl (wd_4273f5 k n_t n_text n_now n_past n_slots n_sightings n_survey n_trial n_now_rows v_filledSlots v_seedNow v_now_size v_now_stations r_now_rows) H → va_D A (wd_4273f5 k n_t n_text n_now n_past n_slots n_sightings n_survey n_trial n_now_rows v_filledSlots v_seedNow v_now_size v_now_stations r_now_rows) → va_S A s.heap H locs → W p l e rm_X5_widest s m args below meth c H locs 0 0 Q (F0 m pc ls [.int v])) (H : Heap) (locs : List Loc) (ls : Array Slot) (hl : lv_has ls 3 [(0, .ref n_t), (1, .int x1), (2, .int x2)]) (hP : va_P (dC, dI) vwCl (wd_4273f5 k n_t n_text n_now n_past n_slots n_sightings n_survey n_trial n_now_rows v_filledSlots v_seedNow v_now_size v_now_stations r_now_rows) H) (hD : va_D A (wd_4273f5 k n_t n_text n_now n_past n_slots n_sightings n_survey n_trial n_now_rows v_filledSlots v_seedNow v_now_size v_now_stations r_now_rows)) (hS : va_S A s.heap H locs) (hm : f_X5_widest F x1 x2 v_now_size v_now_stations r_now_rows = some o_r) : W p l e rm_X5_widest s m args below meth c H locs 0 0 Q (F0 m 0 ls []) := by
  have hinX5 : ∀ w ∈ u_ws RX5 TX5 9, w ∈ wsX5_widest := by decide +kernel
  have k0 := hts (.fieldLink RX5 19 "CaveLegs" "now" "LCaveLegs$Legs;") (by decide +kernel)
  unfold f_X5_widest at hm
  refine lv_aload_n hx hb dX5_widest_0 rfl (lv_at hl 0 rfl) ?_
  refine va_get (D := (dC, dI)) (ci := 5) (v := .ref n_now) (C := RX5) (T := TX5) (N := 9) hx hb hts hinX5 hown hG.1 hP 0 rfl rfl 1 (by decide) k0 (fun _ h9 => h9) rfl dX5_widest_1 ?_
  refine lv_iload_n hx hb dX5_widest_4 rfl (lv_at hl 1 rfl) ?_
  obtain ⟨r1, e2, hm⟩ := bnd1_some hm
  refine g_calli (w2 := (wd_4273f5 k n_t n_text n_now n_past n_slots n_sightings n_survey n_trial n_now_rows v_filledSlots v_seedNow v_now_size v_now_stations r_now_rows)) (va_runV (As := [.int x1]) (rest := []) ⟨hx, hb, hml, hown, hts⟩ (m_X0_hasStation l dC dI k H.size n_now n_now_rows v_now_size v_now_stations x1 e2) (cwV 1 hts gX5_widest_X0_hasStation rfl rfl rfl (by decide +kernel) ⟨Nat.le_of_ble_eq_true rfl, Nat.le_of_ble_eq_true rfl⟩) (g_preV hG hP hD hS hA [1] rfl (by decide) (ci := 0) (q0 := 1) rfl rfl) rfl rfl hl.1 rfl (lv_room (Nat.le_of_ble_eq_true rfl)) dX5_widest_5 ⟨Nat.le_of_ble_eq_true rfl, Nat.le_of_ble_eq_true rfl⟩) hP hD hS hA [1] [0, 2] [0, 2, 1] rfl rfl (by decide) (by decide) rfl (by decide) (fun H locs hP hD hS => ?_)
  refine lv_if_eq (tgt := 22) hx hb dX5_widest_8 (by decide) (fun c3 => ?_) (fun c3 => ?_)
  · replace hm := ifp c3 hm
    refine lv_iconst (v := (-1 : Int32)) hx hb dX5_widest_22 (by decide) ?_
    exact RET _ _ _ _ _ dX5_widest_23 hm hP hD hS
  · replace hm := ifn c3 hm
    refine lv_aload_n hx hb dX5_widest_11 rfl (lv_at hl 0 rfl) ?_
    refine va_get (D := (dC, dI)) (ci := 5) (v := .ref n_now) (C := RX5) (T := TX5) (N := 9) hx hb hts hinX5 hown hG.1 hP 0 rfl rfl 1 (by decide) k0 (fun _ h9 => h9) rfl dX5_widest_12 ?_
    refine lv_iload_n hx hb dX5_widest_15 rfl (lv_at hl 2 rfl) ?_
    obtain ⟨r4, e5, hm⟩ := bnd1_some hm
    refine g_calli (w2 := (wd_4273f5 k n_t n_text n_now n_past n_slots n_sightings n_survey n_trial n_now_rows v_filledSlots v_seedNow v_now_size v_now_stations r_now_rows)) (va_runV (As := [.int x2]) (rest := []) ⟨hx, hb, hml, hown, hts⟩ (m_X0_hasStation l dC dI k H.size n_now n_now_rows v_now_size v_now_stations x2 e5) (cwV 1 hts gX5_widest_X0_hasStation rfl rfl rfl (by decide +kernel) ⟨Nat.le_of_ble_eq_true rfl, Nat.le_of_ble_eq_true rfl⟩) (g_preV hG hP hD hS hA [1] rfl (by decide) (ci := 0) (q0 := 1) rfl rfl) rfl rfl hl.1 rfl (lv_room (Nat.le_of_ble_eq_true rfl)) dX5_widest_16 ⟨Nat.le_of_ble_eq_true rfl, Nat.le_of_ble_eq_true rfl⟩) hP hD hS hA [1] [0, 2] [0, 2, 1] rfl rfl (by decide) (by decide) rfl (by decide) (fun H locs hP hD hS => ?_)
    refine lv_if_ne (tgt := 24) hx hb dX5_widest_19 (by decide) (fun c6 => ?_) (fun c6 => ?_)
    · replace hm := ifn c6 hm
      refine lv_aload_n hx hb dX5_widest_24 rfl (lv_at hl 0 rfl) ?_
      refine va_get (D := (dC, dI)) (ci := 5) (v := .ref n_now) (C := RX5) (T := TX5) (N := 9) hx hb hts hinX5 hown hG.1 hP 0 rfl rfl 1 (by decide) k0 (fun _ h9 => h9) rfl dX5_widest_25 ?_
      refine lv_aload_n hx hb dX5_widest_28 rfl (lv_at hl 0 rfl) ?_
      refine va_get (D := (dC, dI)) (ci := 5) (v := .ref n_now) (C := RX5) (T := TX5) (N := 9) hx hb hts hinX5 hown hG.1 hP 0 rfl rfl 1 (by decide) k0 (fun _ h9 => h9) rfl dX5_widest_29 ?_
      obtain ⟨r7, e8, hm⟩ := bnd1_some hm
      refine g_calli (w2 := (wd_4273f5 k n_t n_text n_now n_past n_slots n_sightings n_survey n_trial n_now_rows v_filledSlots v_seedNow v_now_size v_now_stations r_now_rows)) (va_runV (As := []) (rest := [.ref n_now]) ⟨hx, hb, hml, hown, hts⟩ (m_X0_all l dC dI k H.size n_now n_now_rows v_now_size v_now_stations  e8) (cwV 0 hts gX5_widest_X0_all rfl rfl rfl (by decide +kernel) ⟨Nat.le_of_ble_eq_true rfl, Nat.le_of_ble_eq_true rfl⟩) (g_preV hG hP hD hS hA [1] rfl (by decide) (ci := 0) (q0 := 1) rfl rfl) rfl rfl hl.1 rfl (lv_room (Nat.le_of_ble_eq_true rfl)) dX5_widest_32 ⟨Nat.le_of_ble_eq_true rfl, Nat.le_of_ble_eq_true rfl⟩) hP hD hS hA [1] [0, 2] [0, 2, 1] rfl rfl (by decide) (by decide) rfl (by decide) (fun H locs hP hD hS => ?_)
      refine lv_iload_n hx hb dX5_widest_35 rfl (lv_at hl 1 rfl) ?_
      refine lv_iload_n hx hb dX5_widest_36 rfl (lv_at hl 2 rfl) ?_
      obtain ⟨r9, e10, hm⟩ := bnd1_some hm
      refine g_calli (w2 := (wd_4273f5 k n_t n_text n_now n_past n_slots n_sightings n_survey n_trial n_now_rows v_filledSlots v_seedNow v_now_size v_now_stations r_now_rows)) (va_runV (As := [.int r7, .int x1, .int x2]) (rest := []) ⟨hx, hb, hml, hown, hts⟩ (m_X0_greatestWidth l dC dI k F H.size n_now n_now_rows v_now_size v_now_stations r_now_rows r7 x1 x2 e10) (cwV 3 hts gX5_widest_X0_greatestWidth rfl rfl rfl (by decide +kernel) ⟨Nat.le_of_ble_eq_true rfl, Nat.le_of_ble_eq_true rfl⟩) (g_preV hG hP hD hS hA [1, 2] rfl (by decide) (ci := 0) (q0 := 1) rfl rfl) rfl rfl hl.1 rfl (lv_room (Nat.le_of_ble_eq_true rfl)) dX5_widest_37 ⟨Nat.le_of_ble_eq_true rfl, Nat.le_of_ble_eq_true rfl⟩) hP hD hS hA [1, 2] [0] [0, 1, 2] rfl rfl (by decide) (by decide) rfl (by decide) (fun H locs hP hD hS => ?_)
      exact RET _ _ _ _ _ dX5_widest_40 hm hP hD hS
    · replace hm := ifp c6 hm
      refine lv_iconst (v := (-1 : Int32)) hx hb dX5_widest_22 (by decide) ?_
      exact RET _ _ _ _ _ dX5_widest_23 hm hP hD hS
set_option maxRecDepth 100000 in
theorem m_X5_widest (l : Launch) (dC : Nat → ClassId) (dI : Nat → Nat → Nat) (k : Nat → ClassId) (F : Nat) (sz : Nat) (n_t n_text n_now n_past n_slots n_sightings n_survey n_trial n_now_rows : Nat) (v_filledSlots : Int32) (v_seedNow : Int64) (v_now_size : Int32) (v_now_stations : Int32) (r_now_rows : Nat → Int32) (x1 : Int32) (x2 : Int32) {o_r : Int32} (hm : f_X5_widest F x1 x2 v_now_size v_now_stations r_now_rows = some o_r) : Met l yX5_widest wsX5_widest rm_X5_widest (gPre dC dI k [.ref n_t, .int x1, .int x2] sz (wd_4273f5 k n_t n_text n_now n_past n_slots n_sightings n_survey n_trial n_now_rows v_filledSlots v_seedNow v_now_size v_now_stations r_now_rows)) (gQI dC dI (va_A (wd_4273f5 k n_t n_text n_now n_past n_slots n_sightings n_survey n_trial n_now_rows v_filledSlots v_seedNow v_now_size v_now_stations r_now_rows) sz) o_r (wd_4273f5 k n_t n_text n_now n_past n_slots n_sightings n_survey n_trial n_now_rows v_filledSlots v_seedNow v_now_size v_now_stations r_now_rows)) 0 0 (va_A (wd_4273f5 k n_t n_text n_now n_past n_slots n_sightings n_survey n_trial n_now_rows v_filledSlots v_seedNow v_now_size v_now_stations r_now_rows) sz) := by
  refine g_entry (cc := cX5_widest) (maxL := 3) (ret := (some .int)) (lv := [(0, .ref n_t), (1, .int x1), (2, .int x2)]) (by decide +kernel) rfl (Nat.le_of_ble_eq_true rfl) rfl (fun p e s m below meth c ls hx hb hr hml hts hown hlk hnm hsz hG hA hP hD hS hl => ?_)
  exact k_X5_widest hx hb hml hts hown hG hA F n_t n_text n_now n_past n_slots n_sightings n_survey n_trial n_now_rows v_filledSlots v_seedNow v_now_size v_now_stations r_now_rows x1 x2 o_r (fun pc H locs ls v hd ho hP hD hS => by cases ho; exact g_ireti hx hb hr hlk hP hD hS hd) s.heap [] ls hl hP hD hS hm
end
section
set_option maxHeartbeats 4000000 in
set_option maxRecDepth 100000 in
theorem k_X5_isGirth {p : Program} {l : Launch} {e : Env} {s : State} {m : MethodId} {args : Array Value} {below : List Frame} {meth : Method} {c : Code} {A : Nat → Prop} {Q : State → Prop} {dC : Nat → ClassId} {dI : Nat → Nat → Nat} {k : Nat → ClassId} (hx : p.tables.exec = Jvm.exec) (hb : c.code = cX5_isGirth) (hml : c.maxLocals = 1) (hts : ∀ w ∈ wsX5_isGirth, w.before args s = true) (hown : s.vm.findClass RX5 = some m.cls) (hG : gK dC dI k A s) (hA : ∀ q : Nat, s.heap.size ≤ q → A q)  (x0 : Int32) (o_r : Int32) (RET : ∀ (pc : Nat) (H : Heap) (locs : List Loc) (ls : Array Slot) (v : Int32), decode cX5_isGirth pc = .ok (.ireturn, 1) → some v = some o_r → narrow .boolean (.int v) = .int v → va_P (dC, dI) vwCl [] H → va_D A [] → va_S A s.heap H locs → W p l e rm_X5_isGirth s m args below meth c H locs 0 0 Q (F0 m pc ls [.int v])) (H : Heap) (locs : List Loc) (ls : Array Slot) (hl : lv_has ls 1 [(0, .int x0)]) (hP : va_P (dC, dI) vwCl [] H) (hD : va_D A []) (hS : va_S A s.heap H locs) (hm : f_X5_isGirth x0 = some o_r) : W p l e rm_X5_isGirth s m args below meth c H locs 0 0 Q (F0 m 0 ls []) := by
  unfold f_X5_isGirth at hm
  refine lv_iload_n hx hb dX5_isGirth_0 rfl (lv_at hl 0 rfl) ?_
  refine lv_iconst (v := (1 : Int32)) hx hb dX5_isGirth_1 (by decide) ?_
  refine lv_icmp_lt (tgt := 15) hx hb dX5_isGirth_2 (by decide) (fun c1 => ?_) (fun c1 => ?_)
  · replace hm := ifp c1 hm
    refine lv_iconst (v := (0 : Int32)) hx hb dX5_isGirth_15 (by decide) ?_
    exact RET _ _ _ _ _ dX5_isGirth_16 hm (by decide +kernel) hP hD hS
  · replace hm := ifn c1 hm
    refine lv_iload_n hx hb dX5_isGirth_5 rfl (lv_at hl 0 rfl) ?_
    refine lv_bipush (v := (9 : Int32)) hx hb dX5_isGirth_6 (by decide) ?_
    refine lv_icmp_gt (tgt := 15) hx hb dX5_isGirth_8 (by decide) (fun c2 => ?_) (fun c2 => ?_)
    · replace hm := ifp c2 hm
      refine lv_iconst (v := (0 : Int32)) hx hb dX5_isGirth_15 (by decide) ?_
      exact RET _ _ _ _ _ dX5_isGirth_16 hm (by decide +kernel) hP hD hS
    · replace hm := ifn c2 hm
      refine lv_iconst (v := (1 : Int32)) hx hb dX5_isGirth_11 (by decide) ?_
      refine lv_goto (tgt := 16) hx hb dX5_isGirth_12 (by decide) ?_
      exact RET _ _ _ _ _ dX5_isGirth_16 hm (by decide +kernel) hP hD hS
set_option maxRecDepth 100000 in
theorem m_X5_isGirth (l : Launch) (dC : Nat → ClassId) (dI : Nat → Nat → Nat) (k : Nat → ClassId) (sz : Nat)  (x0 : Int32) {o_r : Int32} (hm : f_X5_isGirth x0 = some o_r) : Met l yX5_isGirth wsX5_isGirth rm_X5_isGirth (gPre dC dI k [.int x0] sz []) (gQI dC dI (va_A [] sz) o_r []) 0 0 (va_A [] sz) := by
  refine g_entry (cc := cX5_isGirth) (maxL := 1) (ret := (some .boolean)) (lv := [(0, .int x0)]) (by decide +kernel) rfl (Nat.le_of_ble_eq_true rfl) rfl (fun p e s m below meth c ls hx hb hr hml hts hown hlk hnm hsz hG hA hP hD hS hl => ?_)
  exact k_X5_isGirth hx hb hml hts hown hG hA x0 o_r (fun pc H locs ls v hd ho hz hP hD hS => by cases ho; exact g_iretz hx hb hr hlk hP hD hS hz hd) s.heap [] ls hl hP hD hS hm
end
section
set_option maxHeartbeats 4000000 in
set_option maxRecDepth 100000 in
theorem k_X5_come {p : Program} {l : Launch} {e : Env} {s : State} {m : MethodId} {args : Array Value} {below : List Frame} {meth : Method} {c : Code} {A : Nat → Prop} {Q : State → Prop} {dC : Nat → ClassId} {dI : Nat → Nat → Nat} {k : Nat → ClassId} (hx : p.tables.exec = Jvm.exec) (hb : c.code = cX5_come) (hml : c.maxLocals = 2) (hts : ∀ w ∈ wsX5_come, w.before args s = true) (hown : s.vm.findClass RX5 = some m.cls) (hG : gK dC dI k A s) (hA : ∀ q : Nat, s.heap.size ≤ q → A q) (F : Nat) (n_t n_text n_now n_past n_slots n_sightings n_survey n_trial n_now_rows : Nat) (v_filledSlots : Int32) (v_seedNow : Int64) (v_now_size : Int32) (v_now_stations : Int32) (r_now_rows : Nat → Int32) (x1 : Int32) (o_r : Int32) (RET : ∀ (pc : Nat) (H : Heap) (locs : List Loc) (ls : Array Slot) (v : Int32), decode cX5_come pc = .ok (.ireturn, 1) → some v = some o_r → va_P (dC, dI) vwCl (wd_4273f5 k n_t n_text n_now n_past n_slots n_sightings n_survey n_trial n_now_rows v_filledSlots v_seedNow v_now_size v_now_stations r_now_rows) H → va_D A (wd_4273f5 k n_t n_text n_now n_past n_slots n_sightings n_survey n_trial n_now_rows v_filledSlots v_seedNow v_now_size v_now_stations r_now_rows) → va_S A s.heap H locs → W p l e rm_X5_come s m args below meth c H locs 0 0 Q (F0 m pc ls [.int v])) (H : Heap) (locs : List Loc) (ls : Array Slot) (hl : lv_has ls 2 [(0, .ref n_t), (1, .int x1)]) (hP : va_P (dC, dI) vwCl (wd_4273f5 k n_t n_text n_now n_past n_slots n_sightings n_survey n_trial n_now_rows v_filledSlots v_seedNow v_now_size v_now_stations r_now_rows) H) (hD : va_D A (wd_4273f5 k n_t n_text n_now n_past n_slots n_sightings n_survey n_trial n_now_rows v_filledSlots v_seedNow v_now_size v_now_stations r_now_rows)) (hS : va_S A s.heap H locs) (hm : f_X5_come F x1 v_now_size r_now_rows = some o_r) : W p l e rm_X5_come s m args below meth c H locs 0 0 Q (F0 m 0 ls []) := by
  have hinX5 : ∀ w ∈ u_ws RX5 TX5 9, w ∈ wsX5_come := by decide +kernel
  have k0 := hts (.fieldLink RX5 19 "CaveLegs" "now" "LCaveLegs$Legs;") (by decide +kernel)
  unfold f_X5_come at hm
  refine lv_iload_n hx hb dX5_come_0 rfl (lv_at hl 1 rfl) ?_
  obtain ⟨r1, e2, hm⟩ := bnd1_some hm
  refine g_calli (w2 := (wd_4273f5 k n_t n_text n_now n_past n_slots n_sightings n_survey n_trial n_now_rows v_filledSlots v_seedNow v_now_size v_now_stations r_now_rows)) (va_runS (As := [.int x1]) (rest := []) ⟨hx, hb, hml, hown, hts⟩ (m_X5_isGirth l dC dI k H.size  x1 e2) (va_cwS 1 hts gX5_come_X5_isGirth rfl rfl rfl (by decide +kernel) ⟨Nat.le_of_ble_eq_true rfl, Nat.le_of_ble_eq_true rfl⟩) (g_preS hG hP hD hS hA [] rfl (by decide)) rfl rfl hl.1 rfl (lv_room (Nat.le_of_ble_eq_true rfl)) dX5_come_1 ⟨Nat.le_of_ble_eq_true rfl, Nat.le_of_ble_eq_true rfl⟩) hP hD hS hA [] [0, 1, 2] [0, 1, 2] rfl rfl (by decide) (by decide) rfl (by decide) (fun H locs hP hD hS => ?_)
  refine lv_if_eq (tgt := 18) hx hb dX5_come_4 (by decide) (fun c3 => ?_) (fun c3 => ?_)
  · replace hm := ifp c3 hm
    refine lv_bipush (v := (-2 : Int32)) hx hb dX5_come_18 (by decide) ?_
    exact RET _ _ _ _ _ dX5_come_20 hm hP hD hS
  · replace hm := ifn c3 hm
    refine lv_aload_n hx hb dX5_come_7 rfl (lv_at hl 0 rfl) ?_
    refine va_get (D := (dC, dI)) (ci := 5) (v := .ref n_now) (C := RX5) (T := TX5) (N := 9) hx hb hts hinX5 hown hG.1 hP 0 rfl rfl 1 (by decide) k0 (fun _ h9 => h9) rfl dX5_come_8 ?_
    refine lv_iload_n hx hb dX5_come_11 rfl (lv_at hl 1 rfl) ?_
    obtain ⟨r4, e5, hm⟩ := bnd1_some hm
    refine g_calli (w2 := (wd_4273f5 k n_t n_text n_now n_past n_slots n_sightings n_survey n_trial n_now_rows v_filledSlots v_seedNow v_now_size v_now_stations r_now_rows)) (va_runV (As := [.int x1]) (rest := []) ⟨hx, hb, hml, hown, hts⟩ (m_X0_reached l dC dI k F H.size n_now n_now_rows v_now_size v_now_stations r_now_rows x1 e5) (cwV 1 hts gX5_come_X0_reached rfl rfl rfl (by decide +kernel) ⟨Nat.le_of_ble_eq_true rfl, Nat.le_of_ble_eq_true rfl⟩) (g_preV hG hP hD hS hA [1, 2] rfl (by decide) (ci := 0) (q0 := 1) rfl rfl) rfl rfl hl.1 rfl (lv_room (Nat.le_of_ble_eq_true rfl)) dX5_come_12 ⟨Nat.le_of_ble_eq_true rfl, Nat.le_of_ble_eq_true rfl⟩) hP hD hS hA [1, 2] [0] [0, 1, 2] rfl rfl (by decide) (by decide) rfl (by decide) (fun H locs hP hD hS => ?_)
    refine lv_goto (tgt := 20) hx hb dX5_come_15 (by decide) ?_
    exact RET _ _ _ _ _ dX5_come_20 hm hP hD hS
set_option maxRecDepth 100000 in
theorem m_X5_come (l : Launch) (dC : Nat → ClassId) (dI : Nat → Nat → Nat) (k : Nat → ClassId) (F : Nat) (sz : Nat) (n_t n_text n_now n_past n_slots n_sightings n_survey n_trial n_now_rows : Nat) (v_filledSlots : Int32) (v_seedNow : Int64) (v_now_size : Int32) (v_now_stations : Int32) (r_now_rows : Nat → Int32) (x1 : Int32) {o_r : Int32} (hm : f_X5_come F x1 v_now_size r_now_rows = some o_r) : Met l yX5_come wsX5_come rm_X5_come (gPre dC dI k [.ref n_t, .int x1] sz (wd_4273f5 k n_t n_text n_now n_past n_slots n_sightings n_survey n_trial n_now_rows v_filledSlots v_seedNow v_now_size v_now_stations r_now_rows)) (gQI dC dI (va_A (wd_4273f5 k n_t n_text n_now n_past n_slots n_sightings n_survey n_trial n_now_rows v_filledSlots v_seedNow v_now_size v_now_stations r_now_rows) sz) o_r (wd_4273f5 k n_t n_text n_now n_past n_slots n_sightings n_survey n_trial n_now_rows v_filledSlots v_seedNow v_now_size v_now_stations r_now_rows)) 0 0 (va_A (wd_4273f5 k n_t n_text n_now n_past n_slots n_sightings n_survey n_trial n_now_rows v_filledSlots v_seedNow v_now_size v_now_stations r_now_rows) sz) := by
  refine g_entry (cc := cX5_come) (maxL := 2) (ret := (some .int)) (lv := [(0, .ref n_t), (1, .int x1)]) (by decide +kernel) rfl (Nat.le_of_ble_eq_true rfl) rfl (fun p e s m below meth c ls hx hb hr hml hts hown hlk hnm hsz hG hA hP hD hS hl => ?_)
  exact k_X5_come hx hb hml hts hown hG hA F n_t n_text n_now n_past n_slots n_sightings n_survey n_trial n_now_rows v_filledSlots v_seedNow v_now_size v_now_stations r_now_rows x1 o_r (fun pc H locs ls v hd ho hP hD hS => by cases ho; exact g_ireti hx hb hr hlk hP hD hS hd) s.heap [] ls hl hP hD hS hm
end
section
set_option maxHeartbeats 4000000 in
set_option maxRecDepth 100000 in
theorem k_X5_must {p : Program} {l : Launch} {e : Env} {s : State} {m : MethodId} {args : Array Value} {below : List Frame} {meth : Method} {c : Code} {A : Nat → Prop} {Q : State → Prop} {dC : Nat → ClassId} {dI : Nat → Nat → Nat} {k : Nat → ClassId} (hx : p.tables.exec = Jvm.exec) (hb : c.code = cX5_must) (hml : c.maxLocals = 5) (hts : ∀ w ∈ wsX5_must, w.before args s = true) (hown : s.vm.findClass RX5 = some m.cls) (hG : gK dC dI k A s) (hA : ∀ q : Nat, s.heap.size ≤ q → A q) (F : Nat) (n_t n_text n_now n_past n_slots n_sightings n_survey n_trial n_now_rows : Nat) (v_filledSlots : Int32) (v_seedNow : Int64) (v_now_size : Int32) (v_now_stations : Int32) (r_now_rows : Nat → Int32) (x1 : Int32) (o_r : Int32) (RET : ∀ (pc : Nat) (H : Heap) (locs : List Loc) (ls : Array Slot) (v : Int32), decode cX5_must pc = .ok (.ireturn, 1) → some v = some o_r → va_P (dC, dI) vwCl (wd_4273f5 k n_t n_text n_now n_past n_slots n_sightings n_survey n_trial n_now_rows v_filledSlots v_seedNow v_now_size v_now_stations r_now_rows) H → va_D A (wd_4273f5 k n_t n_text n_now n_past n_slots n_sightings n_survey n_trial n_now_rows v_filledSlots v_seedNow v_now_size v_now_stations r_now_rows) → va_S A s.heap H locs → W p l e rm_X5_must s m args below meth c H locs 0 0 Q (F0 m pc ls [.int v])) (H : Heap) (locs : List Loc) (ls : Array Slot) (hl : lv_has ls 5 [(0, .ref n_t), (1, .int x1)]) (hP : va_P (dC, dI) vwCl (wd_4273f5 k n_t n_text n_now n_past n_slots n_sightings n_survey n_trial n_now_rows v_filledSlots v_seedNow v_now_size v_now_stations r_now_rows) H) (hD : va_D A (wd_4273f5 k n_t n_text n_now n_past n_slots n_sightings n_survey n_trial n_now_rows v_filledSlots v_seedNow v_now_size v_now_stations r_now_rows)) (hS : va_S A s.heap H locs) (hm : f_X5_must F x1 v_now_size v_now_stations r_now_rows = some o_r) : W p l e rm_X5_must s m args below meth c H locs 0 0 Q (F0 m 0 ls []) := by
  have hinX0 : ∀ w ∈ u_ws RX0 TX0 3, w ∈ wsX5_must := by decide +kernel
  have hinX5 : ∀ w ∈ u_ws RX5 TX5 9, w ∈ wsX5_must := by decide +kernel
  have k0 := hts (.fieldLink RX5 19 "CaveLegs" "now" "LCaveLegs$Legs;") (by decide +kernel)
  have k1 := hts (.fieldLink RX5 73 "CaveLegs$Legs" "size" "I") (by decide +kernel)
  have L_45 : ∀ (n45 : Nat) (x1 : Int32) (x2 : Int32) (x3 : Int32) (x4 : Int32) (H : Heap) (locs : List Loc) (ls : Array Slot), lv_has ls 5 [(0, .ref n_t), (1, .int x1), (2, .int x2), (3, .int x3), (4, .int x4)] → va_P (dC, dI) vwCl (wd_4273f5 k n_t n_text n_now n_past n_slots n_sightings n_survey n_trial n_now_rows v_filledSlots v_seedNow v_now_size v_now_stations r_now_rows) H → va_D A (wd_4273f5 k n_t n_text n_now n_past n_slots n_sightings n_survey n_trial n_now_rows v_filledSlots v_seedNow v_now_size v_now_stations r_now_rows) → va_S A s.heap H locs → f_X5_must_L45 F v_now_size v_now_stations r_now_rows n45 x1 x2 x3 x4 = some o_r → W p l e rm_X5_must s m args below meth c H locs 0 0 Q (F0 m 45 ls []) := by
    intro n45
    induction n45 with
    | zero =>
      intro x1 x2 x3 x4 H locs ls hl hP hD hS hm
      exact non_some hm
    | succ n45 ih45 =>
      have J_87 : ∀ (x1 : Int32) (x2 : Int32) (x3 : Int32) (x4 : Int32) (H : Heap) (locs : List Loc) (ls : Array Slot), lv_has ls 5 [(0, .ref n_t), (1, .int x1), (2, .int x2), (3, .int x3), (4, .int x4)] → va_P (dC, dI) vwCl (wd_4273f5 k n_t n_text n_now n_past n_slots n_sightings n_survey n_trial n_now_rows v_filledSlots v_seedNow v_now_size v_now_stations r_now_rows) H → va_D A (wd_4273f5 k n_t n_text n_now n_past n_slots n_sightings n_survey n_trial n_now_rows v_filledSlots v_seedNow v_now_size v_now_stations r_now_rows) → va_S A s.heap H locs → f_X5_must_J87 F v_now_size v_now_stations r_now_rows (f_X5_must_L45 F v_now_size v_now_stations r_now_rows n45) x1 x2 x3 x4 = some o_r → W p l e rm_X5_must s m args below meth c H locs 0 0 Q (F0 m 87 ls []) := by
        intro x1 x2 x3 x4 H locs ls hl hP hD hS hm
        unfold f_X5_must_J87 at hm
        obtain ⟨t1, et1⟩ : ∃ y : Int32, y = x4 + (1 : Int32) := ⟨_, rfl⟩
        replace hm := (nmd_eq et1).trans hm
        refine lv_iinc (v := t1) (lv' := [(4, .int t1), (0, .ref n_t), (1, .int x1), (2, .int x2), (3, .int x3)]) hx hb dX5_must_87 hl (k := 4) rfl (by rw [et1]; rfl) (by decide) rfl (fun ls hl => ?_)
        refine lv_goto (tgt := 45) hx hb dX5_must_90 (by decide) ?_
        exact ih45 _ _ _ _ _ _ _ (lv_sub hl [1, 2, 3, 4, 0] rfl) hP hD hS hm
      intro x1 x2 x3 x4 H locs ls hl hP hD hS hm
      replace hm : f_X5_must_B45 F v_now_size v_now_stations r_now_rows (f_X5_must_L45 F v_now_size v_now_stations r_now_rows n45) x1 x2 x3 x4 = some o_r := hm
      unfold f_X5_must_B45 at hm
      refine lv_iload hx hb dX5_must_45 (lv_at hl 4 rfl) ?_
      refine lv_aload_n hx hb dX5_must_47 rfl (lv_at hl 0 rfl) ?_
      refine va_get (D := (dC, dI)) (ci := 5) (v := .ref n_now) (C := RX5) (T := TX5) (N := 9) hx hb hts hinX5 hown hG.1 hP 0 rfl rfl 1 (by decide) k0 (fun _ h9 => h9) rfl dX5_must_48 ?_
      refine va_get (D := (dC, dI)) (ci := 0) (v := .int v_now_size) (C := RX0) (T := TX0) (N := 3) hx hb hts hinX0 hown hG.1 hP 1 rfl rfl 1 (by decide) k1 (fun _ h9 => h9) rfl dX5_must_51 ?_
      refine lv_icmp_ge (tgt := 93) hx hb dX5_must_54 (by decide) (fun c2 => ?_) (fun c2 => ?_)
      · replace hm := ifp c2 hm
        refine lv_iload_n hx hb dX5_must_93 rfl (lv_at hl 3 rfl) ?_
        exact RET _ _ _ _ _ dX5_must_94 hm hP hD hS
      · replace hm := ifn c2 hm
        refine lv_aload_n hx hb dX5_must_57 rfl (lv_at hl 0 rfl) ?_
        refine va_get (D := (dC, dI)) (ci := 5) (v := .ref n_now) (C := RX5) (T := TX5) (N := 9) hx hb hts hinX5 hown hG.1 hP 0 rfl rfl 1 (by decide) k0 (fun _ h9 => h9) rfl dX5_must_58 ?_
        refine lv_iload_n hx hb dX5_must_61 rfl (lv_at hl 2 rfl) ?_
        refine lv_iconst (v := (1 : Int32)) hx hb dX5_must_62 (by decide) ?_
        refine lv_iload hx hb dX5_must_63 (lv_at hl 4 rfl) ?_
        refine g_ishl hx hb dX5_must_65 ?_
        refine lv_iconst (v := (-1 : Int32)) hx hb dX5_must_66 (by decide) ?_
        refine lv_ixor hx hb dX5_must_67 ?_
        refine lv_iand hx hb dX5_must_68 ?_
        refine lv_iconst (v := (1 : Int32)) hx hb dX5_must_69 (by decide) ?_
        obtain ⟨r3, e4, hm⟩ := bnd1_some hm
        refine g_calli (w2 := (wd_4273f5 k n_t n_text n_now n_past n_slots n_sightings n_survey n_trial n_now_rows v_filledSlots v_seedNow v_now_size v_now_stations r_now_rows)) (va_runV (As := [.int (x2 &&& ((shlI (1 : Int32) x4) ^^^ (-1 : Int32))), .int (1 : Int32)]) (rest := []) ⟨hx, hb, hml, hown, hts⟩ (m_X0_spread l dC dI k F H.size n_now n_now_rows v_now_size v_now_stations r_now_rows (x2 &&& ((shlI (1 : Int32) x4) ^^^ (-1 : Int32))) (1 : Int32) e4) (cwV 2 hts gX5_must_X0_spread rfl rfl rfl (by decide +kernel) ⟨Nat.le_of_ble_eq_true rfl, Nat.le_of_ble_eq_true rfl⟩) (g_preV hG hP hD hS hA [1, 2] rfl (by decide) (ci := 0) (q0 := 1) rfl rfl) rfl rfl hl.1 rfl (lv_room (Nat.le_of_ble_eq_true rfl)) dX5_must_70 ⟨Nat.le_of_ble_eq_true rfl, Nat.le_of_ble_eq_true rfl⟩) hP hD hS hA [1, 2] [0] [0, 1, 2] rfl rfl (by decide) (by decide) rfl (by decide) (fun H locs hP hD hS => ?_)
        refine lv_iload_n hx hb dX5_must_73 rfl (lv_at hl 1 rfl) ?_
        obtain ⟨r5, e6, hm⟩ := bnd1_some hm
        refine g_calli (w2 := (wd_4273f5 k n_t n_text n_now n_past n_slots n_sightings n_survey n_trial n_now_rows v_filledSlots v_seedNow v_now_size v_now_stations r_now_rows)) (va_runS (As := [.int r3, .int x1]) (rest := []) ⟨hx, hb, hml, hown, hts⟩ (m_X5_holds l dC dI k H.size  r3 x1 e6) (va_cwS 2 hts gX5_must_X5_holds rfl rfl rfl (by decide +kernel) ⟨Nat.le_of_ble_eq_true rfl, Nat.le_of_ble_eq_true rfl⟩) (g_preS hG hP hD hS hA [] rfl (by decide)) rfl rfl hl.1 rfl (lv_room (Nat.le_of_ble_eq_true rfl)) dX5_must_74 ⟨Nat.le_of_ble_eq_true rfl, Nat.le_of_ble_eq_true rfl⟩) hP hD hS hA [] [0, 1, 2] [0, 1, 2] rfl rfl (by decide) (by decide) rfl (by decide) (fun H locs hP hD hS => ?_)
        refine lv_if_ne (tgt := 87) hx hb dX5_must_77 (by decide) (fun c7 => ?_) (fun c7 => ?_)
        · replace hm := ifn c7 hm
          exact J_87 _ _ _ _ _ _ _ (lv_sub hl [0, 1, 2, 3, 4] rfl) hP hD hS hm
        · replace hm := ifp c7 hm
          refine lv_iload_n hx hb dX5_must_80 rfl (lv_at hl 3 rfl) ?_
          refine lv_iconst (v := (1 : Int32)) hx hb dX5_must_81 (by decide) ?_
          refine lv_iload hx hb dX5_must_82 (lv_at hl 4 rfl) ?_
          refine g_ishl hx hb dX5_must_84 ?_
          refine lv_ior hx hb dX5_must_85 ?_
          refine lv_topi (fun t8 et8 => ?_)
          replace hm := (nmd_eq et8).trans hm
          refine lv_istore_n (lv' := [(3, .int t8), (0, .ref n_t), (1, .int x1), (2, .int x2), (4, .int x4)]) hx hb dX5_must_86 rfl hl (by decide) rfl (fun ls hl => ?_)
          exact J_87 _ _ _ _ _ _ _ (lv_sub hl [1, 2, 3, 0, 4] rfl) hP hD hS hm
  unfold f_X5_must at hm
  refine lv_aload_n hx hb dX5_must_0 rfl (lv_at hl 0 rfl) ?_
  refine va_get (D := (dC, dI)) (ci := 5) (v := .ref n_now) (C := RX5) (T := TX5) (N := 9) hx hb hts hinX5 hown hG.1 hP 0 rfl rfl 1 (by decide) k0 (fun _ h9 => h9) rfl dX5_must_1 ?_
  refine lv_iload_n hx hb dX5_must_4 rfl (lv_at hl 1 rfl) ?_
  obtain ⟨r9, e10, hm⟩ := bnd1_some hm
  refine g_calli (w2 := (wd_4273f5 k n_t n_text n_now n_past n_slots n_sightings n_survey n_trial n_now_rows v_filledSlots v_seedNow v_now_size v_now_stations r_now_rows)) (va_runV (As := [.int x1]) (rest := []) ⟨hx, hb, hml, hown, hts⟩ (m_X0_hasStation l dC dI k H.size n_now n_now_rows v_now_size v_now_stations x1 e10) (cwV 1 hts gX5_must_X0_hasStation rfl rfl rfl (by decide +kernel) ⟨Nat.le_of_ble_eq_true rfl, Nat.le_of_ble_eq_true rfl⟩) (g_preV hG hP hD hS hA [1] rfl (by decide) (ci := 0) (q0 := 1) rfl rfl) rfl rfl hl.1 rfl (lv_room (Nat.le_of_ble_eq_true rfl)) dX5_must_5 ⟨Nat.le_of_ble_eq_true rfl, Nat.le_of_ble_eq_true rfl⟩) hP hD hS hA [1] [0, 2] [0, 2, 1] rfl rfl (by decide) (by decide) rfl (by decide) (fun H locs hP hD hS => ?_)
  refine lv_if_ne (tgt := 13) hx hb dX5_must_8 (by decide) (fun c11 => ?_) (fun c11 => ?_)
  · replace hm := ifn c11 hm
    refine lv_aload_n hx hb dX5_must_13 rfl (lv_at hl 0 rfl) ?_
    refine va_get (D := (dC, dI)) (ci := 5) (v := .ref n_now) (C := RX5) (T := TX5) (N := 9) hx hb hts hinX5 hown hG.1 hP 0 rfl rfl 1 (by decide) k0 (fun _ h9 => h9) rfl dX5_must_14 ?_
    refine lv_iconst (v := (1 : Int32)) hx hb dX5_must_17 (by decide) ?_
    obtain ⟨r12, e13, hm⟩ := bnd1_some hm
    refine g_calli (w2 := (wd_4273f5 k n_t n_text n_now n_past n_slots n_sightings n_survey n_trial n_now_rows v_filledSlots v_seedNow v_now_size v_now_stations r_now_rows)) (va_runV (As := [.int (1 : Int32)]) (rest := []) ⟨hx, hb, hml, hown, hts⟩ (m_X0_open l dC dI k F H.size n_now n_now_rows v_now_size v_now_stations r_now_rows (1 : Int32) e13) (cwV 1 hts gX5_must_X0_open rfl rfl rfl (by decide +kernel) ⟨Nat.le_of_ble_eq_true rfl, Nat.le_of_ble_eq_true rfl⟩) (g_preV hG hP hD hS hA [1, 2] rfl (by decide) (ci := 0) (q0 := 1) rfl rfl) rfl rfl hl.1 rfl (lv_room (Nat.le_of_ble_eq_true rfl)) dX5_must_18 ⟨Nat.le_of_ble_eq_true rfl, Nat.le_of_ble_eq_true rfl⟩) hP hD hS hA [1, 2] [0] [0, 1, 2] rfl rfl (by decide) (by decide) rfl (by decide) (fun H locs hP hD hS => ?_)
    refine lv_istore_n (lv' := [(2, .int r12), (0, .ref n_t), (1, .int x1)]) hx hb dX5_must_21 rfl hl (by decide) rfl (fun ls hl => ?_)
    refine lv_aload_n hx hb dX5_must_22 rfl (lv_at hl 1 rfl) ?_
    refine va_get (D := (dC, dI)) (ci := 5) (v := .ref n_now) (C := RX5) (T := TX5) (N := 9) hx hb hts hinX5 hown hG.1 hP 0 rfl rfl 1 (by decide) k0 (fun _ h9 => h9) rfl dX5_must_23 ?_
    refine lv_iload_n hx hb dX5_must_26 rfl (lv_at hl 0 rfl) ?_
    refine lv_iconst (v := (1 : Int32)) hx hb dX5_must_27 (by decide) ?_
    obtain ⟨r14, e15, hm⟩ := bnd1_some hm
    refine g_calli (w2 := (wd_4273f5 k n_t n_text n_now n_past n_slots n_sightings n_survey n_trial n_now_rows v_filledSlots v_seedNow v_now_size v_now_stations r_now_rows)) (va_runV (As := [.int r12, .int (1 : Int32)]) (rest := []) ⟨hx, hb, hml, hown, hts⟩ (m_X0_spread l dC dI k F H.size n_now n_now_rows v_now_size v_now_stations r_now_rows r12 (1 : Int32) e15) (cwV 2 hts gX5_must_X0_spread rfl rfl rfl (by decide +kernel) ⟨Nat.le_of_ble_eq_true rfl, Nat.le_of_ble_eq_true rfl⟩) (g_preV hG hP hD hS hA [1, 2] rfl (by decide) (ci := 0) (q0 := 1) rfl rfl) rfl rfl hl.1 rfl (lv_room (Nat.le_of_ble_eq_true rfl)) dX5_must_28 ⟨Nat.le_of_ble_eq_true rfl, Nat.le_of_ble_eq_true rfl⟩) hP hD hS hA [1, 2] [0] [0, 1, 2] rfl rfl (by decide) (by decide) rfl (by decide) (fun H locs hP hD hS => ?_)
    refine lv_iload_n hx hb dX5_must_31 rfl (lv_at hl 2 rfl) ?_
    obtain ⟨r16, e17, hm⟩ := bnd1_some hm
    refine g_calli (w2 := (wd_4273f5 k n_t n_text n_now n_past n_slots n_sightings n_survey n_trial n_now_rows v_filledSlots v_seedNow v_now_size v_now_stations r_now_rows)) (va_runS (As := [.int r14, .int x1]) (rest := []) ⟨hx, hb, hml, hown, hts⟩ (m_X5_holds l dC dI k H.size  r14 x1 e17) (va_cwS 2 hts gX5_must_X5_holds rfl rfl rfl (by decide +kernel) ⟨Nat.le_of_ble_eq_true rfl, Nat.le_of_ble_eq_true rfl⟩) (g_preS hG hP hD hS hA [] rfl (by decide)) rfl rfl hl.1 rfl (lv_room (Nat.le_of_ble_eq_true rfl)) dX5_must_32 ⟨Nat.le_of_ble_eq_true rfl, Nat.le_of_ble_eq_true rfl⟩) hP hD hS hA [] [0, 1, 2] [0, 1, 2] rfl rfl (by decide) (by decide) rfl (by decide) (fun H locs hP hD hS => ?_)
    refine lv_if_ne (tgt := 40) hx hb dX5_must_35 (by decide) (fun c18 => ?_) (fun c18 => ?_)
    · replace hm := ifn c18 hm
      refine lv_iconst (v := (0 : Int32)) hx hb dX5_must_40 (by decide) ?_
      refine lv_istore_n (lv' := [(3, .int (0 : Int32)), (2, .int r12), (0, .ref n_t), (1, .int x1)]) hx hb dX5_must_41 rfl hl (by decide) rfl (fun ls hl => ?_)
      refine lv_iconst (v := (0 : Int32)) hx hb dX5_must_42 (by decide) ?_
      refine lv_istore (lv' := [(4, .int (0 : Int32)), (3, .int (0 : Int32)), (2, .int r12), (0, .ref n_t), (1, .int x1)]) hx hb dX5_must_43 hl (by decide) rfl (fun ls hl => ?_)
      exact L_45 F _ _ _ _ _ _ _ (lv_sub hl [3, 4, 2, 1, 0] rfl) hP hD hS hm
    · replace hm := ifp c18 hm
      refine lv_iconst (v := (0 : Int32)) hx hb dX5_must_38 (by decide) ?_
      exact RET _ _ _ _ _ dX5_must_39 hm hP hD hS
  · replace hm := ifp c11 hm
    refine lv_iconst (v := (-1 : Int32)) hx hb dX5_must_11 (by decide) ?_
    exact RET _ _ _ _ _ dX5_must_12 hm hP hD hS
set_option maxRecDepth 100000 in
theorem m_X5_must (l : Launch) (dC : Nat → ClassId) (dI : Nat → Nat → Nat) (k : Nat → ClassId) (F : Nat) (sz : Nat) (n_t n_text n_now n_past n_slots n_sightings n_survey n_trial n_now_rows : Nat) (v_filledSlots : Int32) (v_seedNow : Int64) (v_now_size : Int32) (v_now_stations : Int32) (r_now_rows : Nat → Int32) (x1 : Int32) {o_r : Int32} (hm : f_X5_must F x1 v_now_size v_now_stations r_now_rows = some o_r) : Met l yX5_must wsX5_must rm_X5_must (gPre dC dI k [.ref n_t, .int x1] sz (wd_4273f5 k n_t n_text n_now n_past n_slots n_sightings n_survey n_trial n_now_rows v_filledSlots v_seedNow v_now_size v_now_stations r_now_rows)) (gQI dC dI (va_A (wd_4273f5 k n_t n_text n_now n_past n_slots n_sightings n_survey n_trial n_now_rows v_filledSlots v_seedNow v_now_size v_now_stations r_now_rows) sz) o_r (wd_4273f5 k n_t n_text n_now n_past n_slots n_sightings n_survey n_trial n_now_rows v_filledSlots v_seedNow v_now_size v_now_stations r_now_rows)) 0 0 (va_A (wd_4273f5 k n_t n_text n_now n_past n_slots n_sightings n_survey n_trial n_now_rows v_filledSlots v_seedNow v_now_size v_now_stations r_now_rows) sz) := by
  refine g_entry (cc := cX5_must) (maxL := 5) (ret := (some .int)) (lv := [(0, .ref n_t), (1, .int x1)]) (by decide +kernel) rfl (Nat.le_of_ble_eq_true rfl) rfl (fun p e s m below meth c ls hx hb hr hml hts hown hlk hnm hsz hG hA hP hD hS hl => ?_)
  exact k_X5_must hx hb hml hts hown hG hA F n_t n_text n_now n_past n_slots n_sightings n_survey n_trial n_now_rows v_filledSlots v_seedNow v_now_size v_now_stations r_now_rows x1 o_r (fun pc H locs ls v hd ho hP hD hS => by cases ho; exact g_ireti hx hb hr hlk hP hD hS hd) s.heap [] ls hl hP hD hS hm
end
section
set_option maxHeartbeats 4000000 in
set_option maxRecDepth 100000 in
theorem k_X5_withoutLast {p : Program} {l : Launch} {e : Env} {s : State} {m : MethodId} {args : Array Value} {below : List Frame} {meth : Method} {c : Code} {A : Nat → Prop} {Q : State → Prop} {dC : Nat → ClassId} {dI : Nat → Nat → Nat} {k : Nat → ClassId} (hx : p.tables.exec = Jvm.exec) (hb : c.code = cX5_withoutLast) (hml : c.maxLocals = 6) (hts : ∀ w ∈ wsX5_withoutLast, w.before args s = true) (hown : s.vm.findClass RX5 = some m.cls) (hG : gK dC dI k A s) (hA : ∀ q : Nat, s.heap.size ≤ q → A q) (F : Nat)  (x0 : Int64) (x2 : Int32) (o_r : Int64) (RET : ∀ (pc : Nat) (H : Heap) (locs : List Loc) (ls : Array Slot) (v : Int64), decode cX5_withoutLast pc = .ok (.lreturn, 1) → some v = some o_r → va_P (dC, dI) vwCl [] H → va_D A [] → va_S A s.heap H locs → W p l e rm_X5_withoutLast s m args below meth c H locs 0 0 Q (F0 m pc ls [.long v])) (H : Heap) (locs : List Loc) (ls : Array Slot) (hl : lv_has ls 6 [(0, .long x0), (2, .int x2)]) (hP : va_P (dC, dI) vwCl [] H) (hD : va_D A []) (hS : va_S A s.heap H locs) (hm : f_X5_withoutLast F x0 x2 = some o_r) : W p l e rm_X5_withoutLast s m args below meth c H locs 0 0 Q (F0 m 0 ls []) := by
  have k0 := hts (.constantLong RX5 201 (10000)) (by decide +kernel)
  have L_5 : ∀ (n5 : Nat) (x2 : Int32) (x3 : Int64) (x5 : Int32) (H : Heap) (locs : List Loc) (ls : Array Slot), lv_has ls 6 [(2, .int x2), (3, .long x3), (5, .int x5)] → va_P (dC, dI) vwCl [] H → va_D A [] → va_S A s.heap H locs → f_X5_withoutLast_L5 F n5 x2 x3 x5 = some o_r → W p l e rm_X5_withoutLast s m args below meth c H locs 0 0 Q (F0 m 5 ls []) := by
    intro n5
    induction n5 with
    | zero =>
      intro x2 x3 x5 H locs ls hl hP hD hS hm
      exact non_some hm
    | succ n5 ih5 =>
      intro x2 x3 x5 H locs ls hl hP hD hS hm
      replace hm : f_X5_withoutLast_B5 F (f_X5_withoutLast_L5 F n5) x2 x3 x5 = some o_r := hm
      unfold f_X5_withoutLast_B5 at hm
      refine lv_iload hx hb dX5_withoutLast_5 (lv_at hl 2 rfl) ?_
      refine lv_iload_n hx hb dX5_withoutLast_7 rfl (lv_at hl 0 rfl) ?_
      refine lv_icmp_ge (tgt := 23) hx hb dX5_withoutLast_8 (by decide) (fun c1 => ?_) (fun c1 => ?_)
      · replace hm := ifp c1 hm
        refine lv_lload_n hx hb dX5_withoutLast_23 rfl (lv_at hl 1 rfl) ?_
        exact RET _ _ _ _ _ dX5_withoutLast_24 hm hP hD hS
      · replace hm := ifn c1 hm
        refine lv_lload_n hx hb dX5_withoutLast_11 rfl (lv_at hl 1 rfl) ?_
        refine lv_ldc2 (v := (10000 : Int64)) hx hb hown k0 dX5_withoutLast_12 ?_
        refine lv_ldiv hx hb dX5_withoutLast_15 (by decide) ?_
        refine lv_topl (fun t2 et2 => ?_)
        replace hm := (nmd_eq et2).trans hm
        refine lv_lstore_n (lv' := [(3, .long t2), (2, .int x2), (5, .int x5)]) hx hb dX5_withoutLast_16 rfl hl (by decide) rfl (fun ls hl => ?_)
        obtain ⟨t3, et3⟩ : ∃ y : Int32, y = x5 + (1 : Int32) := ⟨_, rfl⟩
        replace hm := (nmd_eq et3).trans hm
        refine lv_iinc (v := t3) (lv' := [(5, .int t3), (3, .long t2), (2, .int x2)]) hx hb dX5_withoutLast_17 hl (k := 2) rfl (by rw [et3]; rfl) (by decide) rfl (fun ls hl => ?_)
        refine lv_goto (tgt := 5) hx hb dX5_withoutLast_20 (by decide) ?_
        exact ih5 _ _ _ _ _ _ (lv_sub hl [2, 1, 0] rfl) hP hD hS hm
  unfold f_X5_withoutLast at hm
  refine lv_lload_n hx hb dX5_withoutLast_0 rfl (lv_at hl 0 rfl) ?_
  refine lv_lstore_n (lv' := [(3, .long x0), (0, .long x0), (2, .int x2)]) hx hb dX5_withoutLast_1 rfl hl (by decide) rfl (fun ls hl => ?_)
  refine lv_iconst (v := (0 : Int32)) hx hb dX5_withoutLast_2 (by decide) ?_
  refine lv_istore (lv' := [(5, .int (0 : Int32)), (3, .long x0), (0, .long x0), (2, .int x2)]) hx hb dX5_withoutLast_3 hl (by decide) rfl (fun ls hl => ?_)
  exact L_5 F _ _ _ _ _ _ (lv_sub hl [3, 1, 0] rfl) hP hD hS hm
set_option maxRecDepth 100000 in
theorem m_X5_withoutLast (l : Launch) (dC : Nat → ClassId) (dI : Nat → Nat → Nat) (k : Nat → ClassId) (F : Nat) (sz : Nat)  (x0 : Int64) (x2 : Int32) {o_r : Int64} (hm : f_X5_withoutLast F x0 x2 = some o_r) : Met l yX5_withoutLast wsX5_withoutLast rm_X5_withoutLast (gPre dC dI k [.long x0, .int x2] sz []) (gQL dC dI (va_A [] sz) o_r []) 0 0 (va_A [] sz) := by
  refine g_entry (cc := cX5_withoutLast) (maxL := 6) (ret := (some .long)) (lv := [(0, .long x0), (2, .int x2)]) (by decide +kernel) rfl (Nat.le_of_ble_eq_true rfl) rfl (fun p e s m below meth c ls hx hb hr hml hts hown hlk hnm hsz hG hA hP hD hS hl => ?_)
  exact k_X5_withoutLast hx hb hml hts hown hG hA F x0 x2 o_r (fun pc H locs ls v hd ho hP hD hS => by cases ho; exact g_lret hx hb hr hlk hP hD hS hd) s.heap [] ls hl hP hD hS hm
end
section
set_option maxHeartbeats 4000000 in
set_option maxRecDepth 100000 in
theorem k_X5_carriesOut {p : Program} {l : Launch} {e : Env} {s : State} {m : MethodId} {args : Array Value} {below : List Frame} {meth : Method} {c : Code} {A : Nat → Prop} {Q : State → Prop} {dC : Nat → ClassId} {dI : Nat → Nat → Nat} {k : Nat → ClassId} (hx : p.tables.exec = Jvm.exec) (hb : c.code = cX5_carriesOut) (hml : c.maxLocals = 6) (hts : ∀ w ∈ wsX5_carriesOut, w.before args s = true) (hown : s.vm.findClass RX5 = some m.cls) (hG : gK dC dI k A s) (hA : ∀ q : Nat, s.heap.size ≤ q → A q) (F : Nat) (n_t n_text n_now n_past n_slots n_sightings n_survey n_trial n_trial_rows : Nat) (v_filledSlots : Int32) (v_seedNow : Int64) (v_trial_size : Int32) (v_trial_stations : Int32) (r_trial_rows : Nat → Int32) (x1 : Int32) (x2 : Int32) (x3 : Int32) (x4 : Int32) (o_r : Int32) (o_v_trial_size : (Int32)) (o_r_trial_rows : (Nat → Int32)) (RET : ∀ (pc : Nat) (H : Heap) (locs : List Loc) (ls : Array Slot) (v : Int32) (q_v_trial_size : Int32) (q_r_trial_rows : Nat → Int32), decode cX5_carriesOut pc = .ok (.ireturn, 1) → some (v, q_v_trial_size, q_r_trial_rows) = some (o_r, o_v_trial_size, o_r_trial_rows) → narrow .boolean (.int v) = .int v → va_P (dC, dI) vwCl (wd_84ec43 k n_t n_text n_now n_past n_slots n_sightings n_survey n_trial n_trial_rows v_filledSlots v_seedNow q_v_trial_size v_trial_stations q_r_trial_rows) H → va_D A (wd_84ec43 k n_t n_text n_now n_past n_slots n_sightings n_survey n_trial n_trial_rows v_filledSlots v_seedNow q_v_trial_size v_trial_stations q_r_trial_rows) → va_S A s.heap H locs → W p l e rm_X5_carriesOut s m args below meth c H locs 0 0 Q (F0 m pc ls [.int v])) (H : Heap) (locs : List Loc) (ls : Array Slot) (hl : lv_has ls 6 [(0, .ref n_t), (1, .int x1), (2, .int x2), (3, .int x3), (4, .int x4)]) (hP : va_P (dC, dI) vwCl (wd_84ec43 k n_t n_text n_now n_past n_slots n_sightings n_survey n_trial n_trial_rows v_filledSlots v_seedNow v_trial_size v_trial_stations r_trial_rows) H) (hD : va_D A (wd_84ec43 k n_t n_text n_now n_past n_slots n_sightings n_survey n_trial n_trial_rows v_filledSlots v_seedNow v_trial_size v_trial_stations r_trial_rows)) (hS : va_S A s.heap H locs) (hm : f_X5_carriesOut F x1 x2 x3 x4 v_trial_size r_trial_rows = some (o_r, o_v_trial_size, o_r_trial_rows)) : W p l e rm_X5_carriesOut s m args below meth c H locs 0 0 Q (F0 m 0 ls []) := by
  have hinX5 : ∀ w ∈ u_ws RX5 TX5 9, w ∈ wsX5_carriesOut := by decide +kernel
  have k0 := hts (.fieldLink RX5 48 "CaveLegs" "trial" "LCaveLegs$Legs;") (by decide +kernel)
  have J_40 : ∀ (v_trial_size : Int32) (r_trial_rows : Nat → Int32) (x1 : Int32) (x2 : Int32) (x5 : Int32) (s0 : Int32) (s1 : Int32) (H : Heap) (locs : List Loc) (ls : Array Slot), lv_has ls 6 [(0, .ref n_t), (1, .int x1), (2, .int x2), (5, .int x5)] → va_P (dC, dI) vwCl (wd_84ec43 k n_t n_text n_now n_past n_slots n_sightings n_survey n_trial n_trial_rows v_filledSlots v_seedNow v_trial_size v_trial_stations r_trial_rows) H → va_D A (wd_84ec43 k n_t n_text n_now n_past n_slots n_sightings n_survey n_trial n_trial_rows v_filledSlots v_seedNow v_trial_size v_trial_stations r_trial_rows) → va_S A s.heap H locs → f_X5_carriesOut_J40 F v_trial_size r_trial_rows x1 x2 x5 s0 s1 = some (o_r, o_v_trial_size, o_r_trial_rows) → W p l e rm_X5_carriesOut s m args below meth c H locs 0 0 Q (F0 m 40 ls [.int s1, .int s0]) := by
    intro v_trial_size r_trial_rows x1 x2 x5 s0 s1 H locs ls hl hP hD hS hm
    unfold f_X5_carriesOut_J40 at hm
    refine lv_icmp_eq (tgt := 45) hx hb dX5_carriesOut_40 (by decide) (fun c1 => ?_) (fun c1 => ?_)
    · replace hm := ifp c1 hm
      refine lv_iload_n hx hb dX5_carriesOut_45 rfl (lv_at hl 1 rfl) ?_
      by_cases c2 : x1 = (1 : Int32)
      · replace hm := ifp c2 hm
        refine lv_tableIn (off := 26) (tgt := 72) hx hb dX5_carriesOut_46 (by rw [c2]; decide) (by rw [c2]; decide) (by rw [c2]; rfl) (by decide) ?_
        refine lv_aload_n hx hb dX5_carriesOut_72 rfl (lv_at hl 0 rfl) ?_
        refine va_get (D := (dC, dI)) (ci := 5) (v := .ref n_trial) (C := RX5) (T := TX5) (N := 9) hx hb hts hinX5 hown hG.1 hP 0 rfl rfl 6 (by decide) k0 (fun _ h9 => h9) rfl dX5_carriesOut_73 ?_
        refine lv_iload_n hx hb dX5_carriesOut_76 rfl (lv_at hl 2 rfl) ?_
        obtain ⟨w3, e4, hm⟩ := bnd1_some hm
        refine g_callv (w2 := (wd_84ec43 k n_t n_text n_now n_past n_slots n_sightings n_survey n_trial n_trial_rows v_filledSlots v_seedNow v_trial_size v_trial_stations w3)) (va_runV (As := [.int x2]) (rest := []) ⟨hx, hb, hml, hown, hts⟩ (m_X0_turn l dC dI k H.size n_trial n_trial_rows v_trial_size v_trial_stations r_trial_rows x2 e4) (cwV 1 hts gX5_carriesOut_X0_turn rfl rfl rfl (by decide +kernel) ⟨Nat.le_of_ble_eq_true rfl, Nat.le_of_ble_eq_true rfl⟩) (g_preV hG hP hD hS hA [1, 2] rfl (by decide) (ci := 0) (q0 := 1) rfl rfl) rfl rfl hl.1 rfl (lv_room (Nat.le_of_ble_eq_true rfl)) dX5_carriesOut_77 ⟨Nat.le_of_ble_eq_true rfl, Nat.le_of_ble_eq_true rfl⟩) hP hD hS hA [1, 2] [0] [0, 1, 2] rfl rfl (by decide) (by decide) rfl (by decide) (fun H locs hP hD hS => ?_)
        refine lv_iconst (v := (1 : Int32)) hx hb dX5_carriesOut_80 (by decide) ?_
        exact RET _ _ _ _ _ _ _ dX5_carriesOut_81 hm (by decide +kernel) hP hD hS
      · replace hm := ifn c2 hm
        by_cases c5 : x1 = (2 : Int32)
        · replace hm := ifp c5 hm
          refine lv_tableIn (off := 36) (tgt := 82) hx hb dX5_carriesOut_46 (by rw [c5]; decide) (by rw [c5]; decide) (by rw [c5]; rfl) (by decide) ?_
          refine lv_aload_n hx hb dX5_carriesOut_82 rfl (lv_at hl 0 rfl) ?_
          refine va_get (D := (dC, dI)) (ci := 5) (v := .ref n_trial) (C := RX5) (T := TX5) (N := 9) hx hb hts hinX5 hown hG.1 hP 0 rfl rfl 6 (by decide) k0 (fun _ h9 => h9) rfl dX5_carriesOut_83 ?_
          refine lv_iload_n hx hb dX5_carriesOut_86 rfl (lv_at hl 2 rfl) ?_
          obtain ⟨w6, w7, e8, hm⟩ := bnd2_some hm
          refine g_callv (w2 := (wd_84ec43 k n_t n_text n_now n_past n_slots n_sightings n_survey n_trial n_trial_rows v_filledSlots v_seedNow w6 v_trial_stations w7)) (va_runV (As := [.int x2]) (rest := []) ⟨hx, hb, hml, hown, hts⟩ (m_X0_remove l dC dI k F H.size n_trial n_trial_rows v_trial_size v_trial_stations r_trial_rows x2 e8) (cwV 1 hts gX5_carriesOut_X0_remove rfl rfl rfl (by decide +kernel) ⟨Nat.le_of_ble_eq_true rfl, Nat.le_of_ble_eq_true rfl⟩) (g_preV hG hP hD hS hA [1, 2] rfl (by decide) (ci := 0) (q0 := 1) rfl rfl) rfl rfl hl.1 rfl (lv_room (Nat.le_of_ble_eq_true rfl)) dX5_carriesOut_87 ⟨Nat.le_of_ble_eq_true rfl, Nat.le_of_ble_eq_true rfl⟩) hP hD hS hA [1, 2] [0] [0, 1, 2] rfl rfl (by decide) (by decide) rfl (by decide) (fun H locs hP hD hS => ?_)
          refine lv_iconst (v := (1 : Int32)) hx hb dX5_carriesOut_90 (by decide) ?_
          exact RET _ _ _ _ _ _ _ dX5_carriesOut_91 hm (by decide +kernel) hP hD hS
        · replace hm := ifn c5 hm
          by_cases c9 : x1 = (3 : Int32)
          · replace hm := ifp c9 hm
            refine lv_tableIn (off := 46) (tgt := 92) hx hb dX5_carriesOut_46 (by rw [c9]; decide) (by rw [c9]; decide) (by rw [c9]; rfl) (by decide) ?_
            refine lv_aload_n hx hb dX5_carriesOut_92 rfl (lv_at hl 0 rfl) ?_
            refine va_get (D := (dC, dI)) (ci := 5) (v := .ref n_trial) (C := RX5) (T := TX5) (N := 9) hx hb hts hinX5 hown hG.1 hP 0 rfl rfl 6 (by decide) k0 (fun _ h9 => h9) rfl dX5_carriesOut_93 ?_
            refine lv_iload_n hx hb dX5_carriesOut_96 rfl (lv_at hl 2 rfl) ?_
            refine lv_iconst (v := (0 : Int32)) hx hb dX5_carriesOut_97 (by decide) ?_
            refine lv_iload hx hb dX5_carriesOut_98 (lv_at hl 3 rfl) ?_
            obtain ⟨w10, e11, hm⟩ := bnd1_some hm
            refine g_callv (w2 := (wd_84ec43 k n_t n_text n_now n_past n_slots n_sightings n_survey n_trial n_trial_rows v_filledSlots v_seedNow v_trial_size v_trial_stations w10)) (va_runV (As := [.int x2, .int (0 : Int32), .int x5]) (rest := []) ⟨hx, hb, hml, hown, hts⟩ (m_X0_put l dC dI k H.size n_trial n_trial_rows v_trial_size v_trial_stations r_trial_rows x2 (0 : Int32) x5 e11) (cwV 3 hts gX5_carriesOut_X0_put rfl rfl rfl (by decide +kernel) ⟨Nat.le_of_ble_eq_true rfl, Nat.le_of_ble_eq_true rfl⟩) (g_preV hG hP hD hS hA [1, 2] rfl (by decide) (ci := 0) (q0 := 1) rfl rfl) rfl rfl hl.1 rfl (lv_room (Nat.le_of_ble_eq_true rfl)) dX5_carriesOut_100 ⟨Nat.le_of_ble_eq_true rfl, Nat.le_of_ble_eq_true rfl⟩) hP hD hS hA [1, 2] [0] [0, 1, 2] rfl rfl (by decide) (by decide) rfl (by decide) (fun H locs hP hD hS => ?_)
            refine lv_iconst (v := (1 : Int32)) hx hb dX5_carriesOut_103 (by decide) ?_
            exact RET _ _ _ _ _ _ _ dX5_carriesOut_104 hm (by decide +kernel) hP hD hS
          · replace hm := ifn c9 hm
            refine lv_tableOut (tgt := 105) hx hb dX5_carriesOut_46 (by have qc2 := i32_ne c2 (z := 1) (by decide); have qc5 := i32_ne c5 (z := 2) (by decide); have qc9 := i32_ne c9 (z := 3) (by decide); omega) (by decide) ?_
            refine lv_iconst (v := (0 : Int32)) hx hb dX5_carriesOut_105 (by decide) ?_
            exact RET _ _ _ _ _ _ _ dX5_carriesOut_106 hm (by decide +kernel) hP hD hS
    · replace hm := ifn c1 hm
      refine lv_iconst (v := (0 : Int32)) hx hb dX5_carriesOut_43 (by decide) ?_
      exact RET _ _ _ _ _ _ _ dX5_carriesOut_44 hm (by decide +kernel) hP hD hS
  have J_30 : ∀ (v_trial_size : Int32) (r_trial_rows : Nat → Int32) (x1 : Int32) (x2 : Int32) (x5 : Int32) (s0 : Int32) (H : Heap) (locs : List Loc) (ls : Array Slot), lv_has ls 6 [(0, .ref n_t), (1, .int x1), (2, .int x2), (5, .int x5)] → va_P (dC, dI) vwCl (wd_84ec43 k n_t n_text n_now n_past n_slots n_sightings n_survey n_trial n_trial_rows v_filledSlots v_seedNow v_trial_size v_trial_stations r_trial_rows) H → va_D A (wd_84ec43 k n_t n_text n_now n_past n_slots n_sightings n_survey n_trial n_trial_rows v_filledSlots v_seedNow v_trial_size v_trial_stations r_trial_rows) → va_S A s.heap H locs → f_X5_carriesOut_J30 F v_trial_size r_trial_rows x1 x2 x5 s0 = some (o_r, o_v_trial_size, o_r_trial_rows) → W p l e rm_X5_carriesOut s m args below meth c H locs 0 0 Q (F0 m 30 ls [.int s0]) := by
    intro v_trial_size r_trial_rows x1 x2 x5 s0 H locs ls hl hP hD hS hm
    unfold f_X5_carriesOut_J30 at hm
    refine lv_iload hx hb dX5_carriesOut_30 (lv_at hl 3 rfl) ?_
    refine lv_if_le (tgt := 39) hx hb dX5_carriesOut_32 (by decide) (fun c12 => ?_) (fun c12 => ?_)
    · replace hm := ifp c12 hm
      refine lv_iconst (v := (0 : Int32)) hx hb dX5_carriesOut_39 (by decide) ?_
      exact J_40 _ _ _ _ _ _ _ _ _ _ (lv_sub hl [0, 1, 2, 3] rfl) hP hD hS hm
    · replace hm := ifn c12 hm
      refine lv_iconst (v := (1 : Int32)) hx hb dX5_carriesOut_35 (by decide) ?_
      refine lv_goto (tgt := 40) hx hb dX5_carriesOut_36 (by decide) ?_
      exact J_40 _ _ _ _ _ _ _ _ _ _ (lv_sub hl [0, 1, 2, 3] rfl) hP hD hS hm
  unfold f_X5_carriesOut at hm
  refine lv_bipush (v := (10 : Int32)) hx hb dX5_carriesOut_0 (by decide) ?_
  refine lv_iload_n hx hb dX5_carriesOut_2 rfl (lv_at hl 3 rfl) ?_
  refine lv_imul hx hb dX5_carriesOut_3 ?_
  refine lv_iload hx hb dX5_carriesOut_4 (lv_at hl 4 rfl) ?_
  refine lv_iadd hx hb dX5_carriesOut_6 ?_
  refine lv_topi (fun t13 et13 => ?_)
  replace hm := (nmd_eq et13).trans hm
  refine lv_istore (lv' := [(5, .int t13), (0, .ref n_t), (1, .int x1), (2, .int x2), (3, .int x3), (4, .int x4)]) hx hb dX5_carriesOut_7 hl (by decide) rfl (fun ls hl => ?_)
  refine lv_aload_n hx hb dX5_carriesOut_9 rfl (lv_at hl 1 rfl) ?_
  refine va_get (D := (dC, dI)) (ci := 5) (v := .ref n_trial) (C := RX5) (T := TX5) (N := 9) hx hb hts hinX5 hown hG.1 hP 0 rfl rfl 6 (by decide) k0 (fun _ h9 => h9) rfl dX5_carriesOut_10 ?_
  refine lv_iload_n hx hb dX5_carriesOut_13 rfl (lv_at hl 3 rfl) ?_
  obtain ⟨r14, e15, hm⟩ := bnd1_some hm
  refine g_calli (w2 := (wd_84ec43 k n_t n_text n_now n_past n_slots n_sightings n_survey n_trial n_trial_rows v_filledSlots v_seedNow v_trial_size v_trial_stations r_trial_rows)) (va_runV (As := [.int x2]) (rest := []) ⟨hx, hb, hml, hown, hts⟩ (m_X0_has l dC dI k H.size n_trial n_trial_rows v_trial_size v_trial_stations x2 e15) (cwV 1 hts gX5_carriesOut_X0_has rfl rfl rfl (by decide +kernel) ⟨Nat.le_of_ble_eq_true rfl, Nat.le_of_ble_eq_true rfl⟩) (g_preV hG hP hD hS hA [1] rfl (by decide) (ci := 0) (q0 := 1) rfl rfl) rfl rfl hl.1 rfl (lv_room (Nat.le_of_ble_eq_true rfl)) dX5_carriesOut_14 ⟨Nat.le_of_ble_eq_true rfl, Nat.le_of_ble_eq_true rfl⟩) hP hD hS hA [1] [0, 2] [0, 2, 1] rfl rfl (by decide) (by decide) rfl (by decide) (fun H locs hP hD hS => ?_)
  refine lv_if_eq (tgt := 43) hx hb dX5_carriesOut_17 (by decide) (fun c16 => ?_) (fun c16 => ?_)
  · replace hm := ifp c16 hm
    refine lv_iconst (v := (0 : Int32)) hx hb dX5_carriesOut_43 (by decide) ?_
    exact RET _ _ _ _ _ _ _ dX5_carriesOut_44 hm (by decide +kernel) hP hD hS
  · replace hm := ifn c16 hm
    refine lv_iload_n hx hb dX5_carriesOut_20 rfl (lv_at hl 2 rfl) ?_
    refine lv_iconst (v := (3 : Int32)) hx hb dX5_carriesOut_21 (by decide) ?_
    refine lv_icmp_ne (tgt := 29) hx hb dX5_carriesOut_22 (by decide) (fun c17 => ?_) (fun c17 => ?_)
    · replace hm := ifn c17 hm
      refine lv_iconst (v := (0 : Int32)) hx hb dX5_carriesOut_29 (by decide) ?_
      exact J_30 _ _ _ _ _ _ _ _ _ (lv_sub hl [1, 2, 3, 0] rfl) hP hD hS hm
    · replace hm := ifp c17 hm
      refine lv_iconst (v := (1 : Int32)) hx hb dX5_carriesOut_25 (by decide) ?_
      refine lv_goto (tgt := 30) hx hb dX5_carriesOut_26 (by decide) ?_
      exact J_30 _ _ _ _ _ _ _ _ _ (lv_sub hl [1, 2, 3, 0] rfl) hP hD hS hm
set_option maxRecDepth 100000 in
theorem m_X5_carriesOut (l : Launch) (dC : Nat → ClassId) (dI : Nat → Nat → Nat) (k : Nat → ClassId) (F : Nat) (sz : Nat) (n_t n_text n_now n_past n_slots n_sightings n_survey n_trial n_trial_rows : Nat) (v_filledSlots : Int32) (v_seedNow : Int64) (v_trial_size : Int32) (v_trial_stations : Int32) (r_trial_rows : Nat → Int32) (x1 : Int32) (x2 : Int32) (x3 : Int32) (x4 : Int32) {o_r : Int32} {o_v_trial_size : (Int32)} {o_r_trial_rows : (Nat → Int32)} (hm : f_X5_carriesOut F x1 x2 x3 x4 v_trial_size r_trial_rows = some (o_r, o_v_trial_size, o_r_trial_rows)) : Met l yX5_carriesOut wsX5_carriesOut rm_X5_carriesOut (gPre dC dI k [.ref n_t, .int x1, .int x2, .int x3, .int x4] sz (wd_84ec43 k n_t n_text n_now n_past n_slots n_sightings n_survey n_trial n_trial_rows v_filledSlots v_seedNow v_trial_size v_trial_stations r_trial_rows)) (gQI dC dI (va_A (wd_84ec43 k n_t n_text n_now n_past n_slots n_sightings n_survey n_trial n_trial_rows v_filledSlots v_seedNow v_trial_size v_trial_stations r_trial_rows) sz) o_r (wd_84ec43 k n_t n_text n_now n_past n_slots n_sightings n_survey n_trial n_trial_rows v_filledSlots v_seedNow o_v_trial_size v_trial_stations o_r_trial_rows)) 0 0 (va_A (wd_84ec43 k n_t n_text n_now n_past n_slots n_sightings n_survey n_trial n_trial_rows v_filledSlots v_seedNow v_trial_size v_trial_stations r_trial_rows) sz) := by
  refine g_entry (cc := cX5_carriesOut) (maxL := 6) (ret := (some .boolean)) (lv := [(0, .ref n_t), (1, .int x1), (2, .int x2), (3, .int x3), (4, .int x4)]) (by decide +kernel) rfl (Nat.le_of_ble_eq_true rfl) rfl (fun p e s m below meth c ls hx hb hr hml hts hown hlk hnm hsz hG hA hP hD hS hl => ?_)
  exact k_X5_carriesOut hx hb hml hts hown hG hA F n_t n_text n_now n_past n_slots n_sightings n_survey n_trial n_trial_rows v_filledSlots v_seedNow v_trial_size v_trial_stations r_trial_rows x1 x2 x3 x4 o_r o_v_trial_size o_r_trial_rows (fun pc H locs ls v q_v_trial_size q_r_trial_rows hd ho hz hP hD hS => by cases ho; exact g_iretz hx hb hr hlk hP hD hS hz hd) s.heap [] ls hl hP hD hS hm
end
section
set_option maxHeartbeats 4000000 in
set_option maxRecDepth 100000 in
theorem k_X5_isTrue {p : Program} {l : Launch} {e : Env} {s : State} {m : MethodId} {args : Array Value} {below : List Frame} {meth : Method} {c : Code} {A : Nat → Prop} {Q : State → Prop} {dC : Nat → ClassId} {dI : Nat → Nat → Nat} {k : Nat → ClassId} (hx : p.tables.exec = Jvm.exec) (hb : c.code = cX5_isTrue) (hml : c.maxLocals = 5) (hts : ∀ w ∈ wsX5_isTrue, w.before args s = true) (hown : s.vm.findClass RX5 = some m.cls) (hG : gK dC dI k A s) (hA : ∀ q : Nat, s.heap.size ≤ q → A q) (F : Nat) (n_t n_text n_now n_past n_slots n_sightings n_survey n_trial n_survey_places n_survey_equations n_trial_rows : Nat) (v_filledSlots : Int32) (v_seedNow : Int64) (v_survey_divisor : Int64) (v_survey_squareSum : Int64) (v_trial_size : Int32) (v_trial_stations : Int32) (r_survey_places : Nat → Int32) (r_trial_rows : Nat → Int32) (x1 : Int32) (x2 : Int32) (x3 : Int32) (x4 : Int32) (o_r : Int32) (o_r_survey_places : (Nat → Int32)) (RET : ∀ (pc : Nat) (H : Heap) (locs : List Loc) (ls : Array Slot) (v : Int32) (q_r_survey_places : Nat → Int32), decode cX5_isTrue pc = .ok (.ireturn, 1) → some (v, q_r_survey_places) = some (o_r, o_r_survey_places) → narrow .boolean (.int v) = .int v → va_P (dC, dI) vwCl (wd_b86ec1 k n_t n_text n_now n_past n_slots n_sightings n_survey n_trial n_survey_places n_survey_equations n_trial_rows v_filledSlots v_seedNow v_survey_divisor v_survey_squareSum v_trial_size v_trial_stations q_r_survey_places r_trial_rows) H → va_D A (wd_b86ec1 k n_t n_text n_now n_past n_slots n_sightings n_survey n_trial n_survey_places n_survey_equations n_trial_rows v_filledSlots v_seedNow v_survey_divisor v_survey_squareSum v_trial_size v_trial_stations q_r_survey_places r_trial_rows) → va_S A s.heap H locs → W p l e rm_X5_isTrue s m args below meth c H locs 0 0 Q (F0 m pc ls [.int v])) (H : Heap) (locs : List Loc) (ls : Array Slot) (hl : lv_has ls 5 [(0, .ref n_t), (1, .int x1), (2, .int x2), (3, .int x3), (4, .int x4)]) (hP : va_P (dC, dI) vwCl (wd_b86ec1 k n_t n_text n_now n_past n_slots n_sightings n_survey n_trial n_survey_places n_survey_equations n_trial_rows v_filledSlots v_seedNow v_survey_divisor v_survey_squareSum v_trial_size v_trial_stations r_survey_places r_trial_rows) H) (hD : va_D A (wd_b86ec1 k n_t n_text n_now n_past n_slots n_sightings n_survey n_trial n_survey_places n_survey_equations n_trial_rows v_filledSlots v_seedNow v_survey_divisor v_survey_squareSum v_trial_size v_trial_stations r_survey_places r_trial_rows)) (hS : va_S A s.heap H locs) (hm : f_X5_isTrue F x1 x2 x3 x4 r_survey_places v_trial_size v_trial_stations r_trial_rows = some (o_r, o_r_survey_places)) : W p l e rm_X5_isTrue s m args below meth c H locs 0 0 Q (F0 m 0 ls []) := by
  have hinX5 : ∀ w ∈ u_ws RX5 TX5 9, w ∈ wsX5_isTrue := by decide +kernel
  have k0 := hts (.fieldLink RX5 48 "CaveLegs" "trial" "LCaveLegs$Legs;") (by decide +kernel)
  have k1 := hts (.fieldLink RX5 44 "CaveLegs" "survey" "LCaveLegs$Survey;") (by decide +kernel)
  have J_193 : ∀ (r_survey_places : Nat → Int32) (s0 : Int32) (s1 : Int32) (H : Heap) (locs : List Loc) (ls : Array Slot), lv_has ls 5 [] → va_P (dC, dI) vwCl (wd_b86ec1 k n_t n_text n_now n_past n_slots n_sightings n_survey n_trial n_survey_places n_survey_equations n_trial_rows v_filledSlots v_seedNow v_survey_divisor v_survey_squareSum v_trial_size v_trial_stations r_survey_places r_trial_rows) H → va_D A (wd_b86ec1 k n_t n_text n_now n_past n_slots n_sightings n_survey n_trial n_survey_places n_survey_equations n_trial_rows v_filledSlots v_seedNow v_survey_divisor v_survey_squareSum v_trial_size v_trial_stations r_survey_places r_trial_rows) → va_S A s.heap H locs → f_X5_isTrue_J193 F v_trial_size v_trial_stations r_trial_rows r_survey_places s0 s1 = some (o_r, o_r_survey_places) → W p l e rm_X5_isTrue s m args below meth c H locs 0 0 Q (F0 m 193 ls [.int s1, .int s0]) := by
    intro r_survey_places s0 s1 H locs ls hl hP hD hS hm
    unfold f_X5_isTrue_J193 at hm
    refine lv_icmp_ne (tgt := 200) hx hb dX5_isTrue_193 (by decide) (fun c1 => ?_) (fun c1 => ?_)
    · replace hm := ifn c1 hm
      refine lv_iconst (v := (0 : Int32)) hx hb dX5_isTrue_200 (by decide) ?_
      exact RET _ _ _ _ _ _ dX5_isTrue_201 hm (by decide +kernel) hP hD hS
    · replace hm := ifp c1 hm
      refine lv_iconst (v := (1 : Int32)) hx hb dX5_isTrue_196 (by decide) ?_
      refine lv_goto (tgt := 201) hx hb dX5_isTrue_197 (by decide) ?_
      exact RET _ _ _ _ _ _ dX5_isTrue_201 hm (by decide +kernel) hP hD hS
  unfold f_X5_isTrue at hm
  refine lv_iload_n hx hb dX5_isTrue_0 rfl (lv_at hl 1 rfl) ?_
  by_cases c2 : x1 = (4 : Int32)
  · replace hm := ifp c2 hm
    refine lv_tableIn (off := 31) (tgt := 32) hx hb dX5_isTrue_1 (by rw [c2]; decide) (by rw [c2]; decide) (by rw [c2]; rfl) (by decide) ?_
    refine lv_aload_n hx hb dX5_isTrue_32 rfl (lv_at hl 0 rfl) ?_
    refine va_get (D := (dC, dI)) (ci := 5) (v := .ref n_trial) (C := RX5) (T := TX5) (N := 9) hx hb hts hinX5 hown hG.1 hP 0 rfl rfl 6 (by decide) k0 (fun _ h9 => h9) rfl dX5_isTrue_33 ?_
    refine lv_iload_n hx hb dX5_isTrue_36 rfl (lv_at hl 2 rfl) ?_
    obtain ⟨r3, e4, hm⟩ := bnd1_some hm
    refine g_calli (w2 := (wd_b86ec1 k n_t n_text n_now n_past n_slots n_sightings n_survey n_trial n_survey_places n_survey_equations n_trial_rows v_filledSlots v_seedNow v_survey_divisor v_survey_squareSum v_trial_size v_trial_stations r_survey_places r_trial_rows)) (va_runV (As := [.int x2]) (rest := []) ⟨hx, hb, hml, hown, hts⟩ (m_X0_hasStation l dC dI k H.size n_trial n_trial_rows v_trial_size v_trial_stations x2 e4) (cwV 1 hts gX5_isTrue_X0_hasStation rfl rfl rfl (by decide +kernel) ⟨Nat.le_of_ble_eq_true rfl, Nat.le_of_ble_eq_true rfl⟩) (g_preV hG hP hD hS hA [3] rfl (by decide) (ci := 0) (q0 := 3) rfl rfl) rfl rfl hl.1 rfl (lv_room (Nat.le_of_ble_eq_true rfl)) dX5_isTrue_37 ⟨Nat.le_of_ble_eq_true rfl, Nat.le_of_ble_eq_true rfl⟩) hP hD hS hA [3] [0, 1, 2, 4] [0, 1, 2, 4, 3] rfl rfl (by decide) (by decide) rfl (by decide) (fun H locs hP hD hS => ?_)
    refine lv_if_eq (tgt := 79) hx hb dX5_isTrue_40 (by decide) (fun c5 => ?_) (fun c5 => ?_)
    · replace hm := ifp c5 hm
      refine lv_iconst (v := (0 : Int32)) hx hb dX5_isTrue_79 (by decide) ?_
      exact RET _ _ _ _ _ _ dX5_isTrue_80 hm (by decide +kernel) hP hD hS
    · replace hm := ifn c5 hm
      refine lv_aload_n hx hb dX5_isTrue_43 rfl (lv_at hl 0 rfl) ?_
      refine va_get (D := (dC, dI)) (ci := 5) (v := .ref n_trial) (C := RX5) (T := TX5) (N := 9) hx hb hts hinX5 hown hG.1 hP 0 rfl rfl 6 (by decide) k0 (fun _ h9 => h9) rfl dX5_isTrue_44 ?_
      refine lv_iload_n hx hb dX5_isTrue_47 rfl (lv_at hl 3 rfl) ?_
      obtain ⟨r6, e7, hm⟩ := bnd1_some hm
      refine g_calli (w2 := (wd_b86ec1 k n_t n_text n_now n_past n_slots n_sightings n_survey n_trial n_survey_places n_survey_equations n_trial_rows v_filledSlots v_seedNow v_survey_divisor v_survey_squareSum v_trial_size v_trial_stations r_survey_places r_trial_rows)) (va_runV (As := [.int x3]) (rest := []) ⟨hx, hb, hml, hown, hts⟩ (m_X0_hasStation l dC dI k H.size n_trial n_trial_rows v_trial_size v_trial_stations x3 e7) (cwV 1 hts gX5_isTrue_X0_hasStation rfl rfl rfl (by decide +kernel) ⟨Nat.le_of_ble_eq_true rfl, Nat.le_of_ble_eq_true rfl⟩) (g_preV hG hP hD hS hA [3] rfl (by decide) (ci := 0) (q0 := 3) rfl rfl) rfl rfl hl.1 rfl (lv_room (Nat.le_of_ble_eq_true rfl)) dX5_isTrue_48 ⟨Nat.le_of_ble_eq_true rfl, Nat.le_of_ble_eq_true rfl⟩) hP hD hS hA [3] [0, 1, 2, 4] [0, 1, 2, 4, 3] rfl rfl (by decide) (by decide) rfl (by decide) (fun H locs hP hD hS => ?_)
      refine lv_if_eq (tgt := 79) hx hb dX5_isTrue_51 (by decide) (fun c8 => ?_) (fun c8 => ?_)
      · replace hm := ifp c8 hm
        refine lv_iconst (v := (0 : Int32)) hx hb dX5_isTrue_79 (by decide) ?_
        exact RET _ _ _ _ _ _ dX5_isTrue_80 hm (by decide +kernel) hP hD hS
      · replace hm := ifn c8 hm
        refine lv_aload_n hx hb dX5_isTrue_54 rfl (lv_at hl 0 rfl) ?_
        refine va_get (D := (dC, dI)) (ci := 5) (v := .ref n_trial) (C := RX5) (T := TX5) (N := 9) hx hb hts hinX5 hown hG.1 hP 0 rfl rfl 6 (by decide) k0 (fun _ h9 => h9) rfl dX5_isTrue_55 ?_
        refine lv_aload_n hx hb dX5_isTrue_58 rfl (lv_at hl 0 rfl) ?_
        refine va_get (D := (dC, dI)) (ci := 5) (v := .ref n_trial) (C := RX5) (T := TX5) (N := 9) hx hb hts hinX5 hown hG.1 hP 0 rfl rfl 6 (by decide) k0 (fun _ h9 => h9) rfl dX5_isTrue_59 ?_
        obtain ⟨r9, e10, hm⟩ := bnd1_some hm
        refine g_calli (w2 := (wd_b86ec1 k n_t n_text n_now n_past n_slots n_sightings n_survey n_trial n_survey_places n_survey_equations n_trial_rows v_filledSlots v_seedNow v_survey_divisor v_survey_squareSum v_trial_size v_trial_stations r_survey_places r_trial_rows)) (va_runV (As := []) (rest := [.ref n_trial]) ⟨hx, hb, hml, hown, hts⟩ (m_X0_all l dC dI k H.size n_trial n_trial_rows v_trial_size v_trial_stations  e10) (cwV 0 hts gX5_isTrue_X0_all rfl rfl rfl (by decide +kernel) ⟨Nat.le_of_ble_eq_true rfl, Nat.le_of_ble_eq_true rfl⟩) (g_preV hG hP hD hS hA [3] rfl (by decide) (ci := 0) (q0 := 3) rfl rfl) rfl rfl hl.1 rfl (lv_room (Nat.le_of_ble_eq_true rfl)) dX5_isTrue_62 ⟨Nat.le_of_ble_eq_true rfl, Nat.le_of_ble_eq_true rfl⟩) hP hD hS hA [3] [0, 1, 2, 4] [0, 1, 2, 4, 3] rfl rfl (by decide) (by decide) rfl (by decide) (fun H locs hP hD hS => ?_)
        refine lv_iload_n hx hb dX5_isTrue_65 rfl (lv_at hl 2 rfl) ?_
        refine lv_iload_n hx hb dX5_isTrue_66 rfl (lv_at hl 3 rfl) ?_
        obtain ⟨r11, e12, hm⟩ := bnd1_some hm
        refine g_calli (w2 := (wd_b86ec1 k n_t n_text n_now n_past n_slots n_sightings n_survey n_trial n_survey_places n_survey_equations n_trial_rows v_filledSlots v_seedNow v_survey_divisor v_survey_squareSum v_trial_size v_trial_stations r_survey_places r_trial_rows)) (va_runV (As := [.int r9, .int x2, .int x3]) (rest := []) ⟨hx, hb, hml, hown, hts⟩ (m_X0_greatestWidth l dC dI k F H.size n_trial n_trial_rows v_trial_size v_trial_stations r_trial_rows r9 x2 x3 e12) (cwV 3 hts gX5_isTrue_X0_greatestWidth rfl rfl rfl (by decide +kernel) ⟨Nat.le_of_ble_eq_true rfl, Nat.le_of_ble_eq_true rfl⟩) (g_preV hG hP hD hS hA [3, 4] rfl (by decide) (ci := 0) (q0 := 3) rfl rfl) rfl rfl hl.1 rfl (lv_room (Nat.le_of_ble_eq_true rfl)) dX5_isTrue_67 ⟨Nat.le_of_ble_eq_true rfl, Nat.le_of_ble_eq_true rfl⟩) hP hD hS hA [3, 4] [0, 1, 2] [0, 1, 2, 3, 4] rfl rfl (by decide) (by decide) rfl (by decide) (fun H locs hP hD hS => ?_)
        refine lv_iload hx hb dX5_isTrue_70 (lv_at hl 4 rfl) ?_
        refine lv_icmp_lt (tgt := 79) hx hb dX5_isTrue_72 (by decide) (fun c13 => ?_) (fun c13 => ?_)
        · replace hm := ifp c13 hm
          refine lv_iconst (v := (0 : Int32)) hx hb dX5_isTrue_79 (by decide) ?_
          exact RET _ _ _ _ _ _ dX5_isTrue_80 hm (by decide +kernel) hP hD hS
        · replace hm := ifn c13 hm
          refine lv_iconst (v := (1 : Int32)) hx hb dX5_isTrue_75 (by decide) ?_
          refine lv_goto (tgt := 80) hx hb dX5_isTrue_76 (by decide) ?_
          exact RET _ _ _ _ _ _ dX5_isTrue_80 hm (by decide +kernel) hP hD hS
  · replace hm := ifn c2 hm
    by_cases c14 : x1 = (5 : Int32)
    · replace hm := ifp c14 hm
      refine lv_tableIn (off := 80) (tgt := 81) hx hb dX5_isTrue_1 (by rw [c14]; decide) (by rw [c14]; decide) (by rw [c14]; rfl) (by decide) ?_
      refine lv_iload hx hb dX5_isTrue_81 (lv_at hl 4 rfl) ?_
      refine lv_if_ne (tgt := 106) hx hb dX5_isTrue_83 (by decide) (fun c15 => ?_) (fun c15 => ?_)
      · replace hm := ifn c15 hm
        refine lv_iconst (v := (0 : Int32)) hx hb dX5_isTrue_106 (by decide) ?_
        exact RET _ _ _ _ _ _ dX5_isTrue_107 hm (by decide +kernel) hP hD hS
      · replace hm := ifp c15 hm
        refine lv_aload_n hx hb dX5_isTrue_86 rfl (lv_at hl 0 rfl) ?_
        refine va_get (D := (dC, dI)) (ci := 5) (v := .ref n_trial) (C := RX5) (T := TX5) (N := 9) hx hb hts hinX5 hown hG.1 hP 0 rfl rfl 6 (by decide) k0 (fun _ h9 => h9) rfl dX5_isTrue_87 ?_
        obtain ⟨r16, e17, hm⟩ := bnd1_some hm
        refine g_calli (w2 := (wd_b86ec1 k n_t n_text n_now n_past n_slots n_sightings n_survey n_trial n_survey_places n_survey_equations n_trial_rows v_filledSlots v_seedNow v_survey_divisor v_survey_squareSum v_trial_size v_trial_stations r_survey_places r_trial_rows)) (va_runV (As := []) (rest := []) ⟨hx, hb, hml, hown, hts⟩ (m_X0_loops l dC dI k F H.size n_trial n_trial_rows v_trial_size v_trial_stations r_trial_rows  e17) (cwV 0 hts gX5_isTrue_X0_loops rfl rfl rfl (by decide +kernel) ⟨Nat.le_of_ble_eq_true rfl, Nat.le_of_ble_eq_true rfl⟩) (g_preV hG hP hD hS hA [3, 4] rfl (by decide) (ci := 0) (q0 := 3) rfl rfl) rfl rfl hl.1 rfl (lv_room (Nat.le_of_ble_eq_true rfl)) dX5_isTrue_90 ⟨Nat.le_of_ble_eq_true rfl, Nat.le_of_ble_eq_true rfl⟩) hP hD hS hA [3, 4] [0, 1, 2] [0, 1, 2, 3, 4] rfl rfl (by decide) (by decide) rfl (by decide) (fun H locs hP hD hS => ?_)
        refine lv_bipush (v := (10 : Int32)) hx hb dX5_isTrue_93 (by decide) ?_
        refine lv_iload_n hx hb dX5_isTrue_95 rfl (lv_at hl 2 rfl) ?_
        refine lv_imul hx hb dX5_isTrue_96 ?_
        refine lv_iload_n hx hb dX5_isTrue_97 rfl (lv_at hl 3 rfl) ?_
        refine lv_iadd hx hb dX5_isTrue_98 ?_
        refine lv_icmp_ne (tgt := 106) hx hb dX5_isTrue_99 (by decide) (fun c18 => ?_) (fun c18 => ?_)
        · replace hm := ifn c18 hm
          refine lv_iconst (v := (0 : Int32)) hx hb dX5_isTrue_106 (by decide) ?_
          exact RET _ _ _ _ _ _ dX5_isTrue_107 hm (by decide +kernel) hP hD hS
        · replace hm := ifp c18 hm
          refine lv_iconst (v := (1 : Int32)) hx hb dX5_isTrue_102 (by decide) ?_
          refine lv_goto (tgt := 107) hx hb dX5_isTrue_103 (by decide) ?_
          exact RET _ _ _ _ _ _ dX5_isTrue_107 hm (by decide +kernel) hP hD hS
    · replace hm := ifn c14 hm
      by_cases c19 : x1 = (6 : Int32)
      · replace hm := ifp c19 hm
        refine lv_tableIn (off := 107) (tgt := 108) hx hb dX5_isTrue_1 (by rw [c19]; decide) (by rw [c19]; decide) (by rw [c19]; rfl) (by decide) ?_
        refine lv_aload_n hx hb dX5_isTrue_108 rfl (lv_at hl 0 rfl) ?_
        refine va_get (D := (dC, dI)) (ci := 5) (v := .ref n_trial) (C := RX5) (T := TX5) (N := 9) hx hb hts hinX5 hown hG.1 hP 0 rfl rfl 6 (by decide) k0 (fun _ h9 => h9) rfl dX5_isTrue_109 ?_
        refine lv_iload_n hx hb dX5_isTrue_112 rfl (lv_at hl 2 rfl) ?_
        obtain ⟨r20, e21, hm⟩ := bnd1_some hm
        refine g_calli (w2 := (wd_b86ec1 k n_t n_text n_now n_past n_slots n_sightings n_survey n_trial n_survey_places n_survey_equations n_trial_rows v_filledSlots v_seedNow v_survey_divisor v_survey_squareSum v_trial_size v_trial_stations r_survey_places r_trial_rows)) (va_runV (As := [.int x2]) (rest := []) ⟨hx, hb, hml, hown, hts⟩ (m_X0_has l dC dI k H.size n_trial n_trial_rows v_trial_size v_trial_stations x2 e21) (cwV 1 hts gX5_isTrue_X0_has rfl rfl rfl (by decide +kernel) ⟨Nat.le_of_ble_eq_true rfl, Nat.le_of_ble_eq_true rfl⟩) (g_preV hG hP hD hS hA [3] rfl (by decide) (ci := 0) (q0 := 3) rfl rfl) rfl rfl hl.1 rfl (lv_room (Nat.le_of_ble_eq_true rfl)) dX5_isTrue_113 ⟨Nat.le_of_ble_eq_true rfl, Nat.le_of_ble_eq_true rfl⟩) hP hD hS hA [3] [0, 1, 2, 4] [0, 1, 2, 4, 3] rfl rfl (by decide) (by decide) rfl (by decide) (fun H locs hP hD hS => ?_)
        refine lv_if_eq (tgt := 147) hx hb dX5_isTrue_116 (by decide) (fun c22 => ?_) (fun c22 => ?_)
        · replace hm := ifp c22 hm
          refine lv_iconst (v := (0 : Int32)) hx hb dX5_isTrue_147 (by decide) ?_
          exact RET _ _ _ _ _ _ dX5_isTrue_148 hm (by decide +kernel) hP hD hS
        · replace hm := ifn c22 hm
          refine lv_iload_n hx hb dX5_isTrue_119 rfl (lv_at hl 3 rfl) ?_
          refine lv_if_ne (tgt := 147) hx hb dX5_isTrue_120 (by decide) (fun c23 => ?_) (fun c23 => ?_)
          · replace hm := ifn c23 hm
            refine lv_iconst (v := (0 : Int32)) hx hb dX5_isTrue_147 (by decide) ?_
            exact RET _ _ _ _ _ _ dX5_isTrue_148 hm (by decide +kernel) hP hD hS
          · replace hm := ifp c23 hm
            refine lv_iload hx hb dX5_isTrue_123 (lv_at hl 4 rfl) ?_
            refine lv_if_ne (tgt := 147) hx hb dX5_isTrue_125 (by decide) (fun c24 => ?_) (fun c24 => ?_)
            · replace hm := ifn c24 hm
              refine lv_iconst (v := (0 : Int32)) hx hb dX5_isTrue_147 (by decide) ?_
              exact RET _ _ _ _ _ _ dX5_isTrue_148 hm (by decide +kernel) hP hD hS
            · replace hm := ifp c24 hm
              refine lv_aload_n hx hb dX5_isTrue_128 rfl (lv_at hl 0 rfl) ?_
              refine va_get (D := (dC, dI)) (ci := 5) (v := .ref n_survey) (C := RX5) (T := TX5) (N := 9) hx hb hts hinX5 hown hG.1 hP 0 rfl rfl 5 (by decide) k1 (fun _ h9 => h9) rfl dX5_isTrue_129 ?_
              refine lv_aload_n hx hb dX5_isTrue_132 rfl (lv_at hl 0 rfl) ?_
              refine va_get (D := (dC, dI)) (ci := 5) (v := .ref n_trial) (C := RX5) (T := TX5) (N := 9) hx hb hts hinX5 hown hG.1 hP 0 rfl rfl 6 (by decide) k0 (fun _ h9 => h9) rfl dX5_isTrue_133 ?_
              refine lv_iload_n hx hb dX5_isTrue_136 rfl (lv_at hl 2 rfl) ?_
              obtain ⟨r25, w26, e27, hm⟩ := bnd2_some hm
              refine g_calli (w2 := (wd_b86ec1 k n_t n_text n_now n_past n_slots n_sightings n_survey n_trial n_survey_places n_survey_equations n_trial_rows v_filledSlots v_seedNow v_survey_divisor v_survey_squareSum v_trial_size v_trial_stations w26 r_trial_rows)) (va_runV (As := [.ref n_trial, .int x2]) (rest := []) ⟨hx, hb, hml, hown, hts⟩ (m_X3_closes l dC dI k F H.size n_survey n_trial n_survey_places n_survey_equations n_trial_rows v_survey_divisor v_survey_squareSum v_trial_size v_trial_stations r_survey_places r_trial_rows x2 e27) (cwV 2 hts gX5_isTrue_X3_closes rfl rfl rfl (by decide +kernel) ⟨Nat.le_of_ble_eq_true rfl, Nat.le_of_ble_eq_true rfl⟩) (g_preV hG hP hD hS hA [1, 2, 3, 4] rfl (by decide) (ci := 3) (q0 := 1) rfl rfl) rfl rfl hl.1 rfl (lv_room (Nat.le_of_ble_eq_true rfl)) dX5_isTrue_137 ⟨Nat.le_of_ble_eq_true rfl, Nat.le_of_ble_eq_true rfl⟩) hP hD hS hA [1, 2, 3, 4] [0] [0, 1, 2, 3, 4] rfl rfl (by decide) (by decide) rfl (by decide) (fun H locs hP hD hS => ?_)
              refine lv_if_eq (tgt := 147) hx hb dX5_isTrue_140 (by decide) (fun c28 => ?_) (fun c28 => ?_)
              · replace hm := ifp c28 hm
                refine lv_iconst (v := (0 : Int32)) hx hb dX5_isTrue_147 (by decide) ?_
                exact RET _ _ _ _ _ _ dX5_isTrue_148 hm (by decide +kernel) hP hD hS
              · replace hm := ifn c28 hm
                refine lv_iconst (v := (1 : Int32)) hx hb dX5_isTrue_143 (by decide) ?_
                refine lv_goto (tgt := 148) hx hb dX5_isTrue_144 (by decide) ?_
                exact RET _ _ _ _ _ _ dX5_isTrue_148 hm (by decide +kernel) hP hD hS
      · replace hm := ifn c19 hm
        by_cases c29 : x1 = (7 : Int32)
        · replace hm := ifp c29 hm
          refine lv_tableIn (off := 148) (tgt := 149) hx hb dX5_isTrue_1 (by rw [c29]; decide) (by rw [c29]; decide) (by rw [c29]; rfl) (by decide) ?_
          refine lv_aload_n hx hb dX5_isTrue_149 rfl (lv_at hl 0 rfl) ?_
          refine va_get (D := (dC, dI)) (ci := 5) (v := .ref n_trial) (C := RX5) (T := TX5) (N := 9) hx hb hts hinX5 hown hG.1 hP 0 rfl rfl 6 (by decide) k0 (fun _ h9 => h9) rfl dX5_isTrue_150 ?_
          refine lv_iload_n hx hb dX5_isTrue_153 rfl (lv_at hl 2 rfl) ?_
          obtain ⟨r30, e31, hm⟩ := bnd1_some hm
          refine g_calli (w2 := (wd_b86ec1 k n_t n_text n_now n_past n_slots n_sightings n_survey n_trial n_survey_places n_survey_equations n_trial_rows v_filledSlots v_seedNow v_survey_divisor v_survey_squareSum v_trial_size v_trial_stations r_survey_places r_trial_rows)) (va_runV (As := [.int x2]) (rest := []) ⟨hx, hb, hml, hown, hts⟩ (m_X0_hasStation l dC dI k H.size n_trial n_trial_rows v_trial_size v_trial_stations x2 e31) (cwV 1 hts gX5_isTrue_X0_hasStation rfl rfl rfl (by decide +kernel) ⟨Nat.le_of_ble_eq_true rfl, Nat.le_of_ble_eq_true rfl⟩) (g_preV hG hP hD hS hA [3] rfl (by decide) (ci := 0) (q0 := 3) rfl rfl) rfl rfl hl.1 rfl (lv_room (Nat.le_of_ble_eq_true rfl)) dX5_isTrue_154 ⟨Nat.le_of_ble_eq_true rfl, Nat.le_of_ble_eq_true rfl⟩) hP hD hS hA [3] [0, 1, 2, 4] [0, 1, 2, 4, 3] rfl rfl (by decide) (by decide) rfl (by decide) (fun H locs hP hD hS => ?_)
          refine lv_if_eq (tgt := 200) hx hb dX5_isTrue_157 (by decide) (fun c32 => ?_) (fun c32 => ?_)
          · replace hm := ifp c32 hm
            refine lv_iconst (v := (0 : Int32)) hx hb dX5_isTrue_200 (by decide) ?_
            exact RET _ _ _ _ _ _ dX5_isTrue_201 hm (by decide +kernel) hP hD hS
          · replace hm := ifn c32 hm
            refine lv_iload_n hx hb dX5_isTrue_160 rfl (lv_at hl 3 rfl) ?_
            refine lv_if_le (tgt := 200) hx hb dX5_isTrue_161 (by decide) (fun c33 => ?_) (fun c33 => ?_)
            · replace hm := ifp c33 hm
              refine lv_iconst (v := (0 : Int32)) hx hb dX5_isTrue_200 (by decide) ?_
              exact RET _ _ _ _ _ _ dX5_isTrue_201 hm (by decide +kernel) hP hD hS
            · replace hm := ifn c33 hm
              refine lv_iload hx hb dX5_isTrue_164 (lv_at hl 4 rfl) ?_
              refine lv_iconst (v := (1 : Int32)) hx hb dX5_isTrue_166 (by decide) ?_
              refine lv_icmp_gt (tgt := 200) hx hb dX5_isTrue_167 (by decide) (fun c34 => ?_) (fun c34 => ?_)
              · replace hm := ifp c34 hm
                refine lv_iconst (v := (0 : Int32)) hx hb dX5_isTrue_200 (by decide) ?_
                exact RET _ _ _ _ _ _ dX5_isTrue_201 hm (by decide +kernel) hP hD hS
              · replace hm := ifn c34 hm
                refine lv_aload_n hx hb dX5_isTrue_170 rfl (lv_at hl 0 rfl) ?_
                refine va_get (D := (dC, dI)) (ci := 5) (v := .ref n_trial) (C := RX5) (T := TX5) (N := 9) hx hb hts hinX5 hown hG.1 hP 0 rfl rfl 6 (by decide) k0 (fun _ h9 => h9) rfl dX5_isTrue_171 ?_
                refine lv_iload_n hx hb dX5_isTrue_174 rfl (lv_at hl 3 rfl) ?_
                obtain ⟨r35, e36, hm⟩ := bnd1_some hm
                refine g_calli (w2 := (wd_b86ec1 k n_t n_text n_now n_past n_slots n_sightings n_survey n_trial n_survey_places n_survey_equations n_trial_rows v_filledSlots v_seedNow v_survey_divisor v_survey_squareSum v_trial_size v_trial_stations r_survey_places r_trial_rows)) (va_runV (As := [.int x3]) (rest := []) ⟨hx, hb, hml, hown, hts⟩ (m_X0_reached l dC dI k F H.size n_trial n_trial_rows v_trial_size v_trial_stations r_trial_rows x3 e36) (cwV 1 hts gX5_isTrue_X0_reached rfl rfl rfl (by decide +kernel) ⟨Nat.le_of_ble_eq_true rfl, Nat.le_of_ble_eq_true rfl⟩) (g_preV hG hP hD hS hA [3, 4] rfl (by decide) (ci := 0) (q0 := 3) rfl rfl) rfl rfl hl.1 rfl (lv_room (Nat.le_of_ble_eq_true rfl)) dX5_isTrue_175 ⟨Nat.le_of_ble_eq_true rfl, Nat.le_of_ble_eq_true rfl⟩) hP hD hS hA [3, 4] [0, 1, 2] [0, 1, 2, 3, 4] rfl rfl (by decide) (by decide) rfl (by decide) (fun H locs hP hD hS => ?_)
                refine lv_iload_n hx hb dX5_isTrue_178 rfl (lv_at hl 2 rfl) ?_
                obtain ⟨r37, e38, hm⟩ := bnd1_some hm
                refine g_calli (w2 := (wd_b86ec1 k n_t n_text n_now n_past n_slots n_sightings n_survey n_trial n_survey_places n_survey_equations n_trial_rows v_filledSlots v_seedNow v_survey_divisor v_survey_squareSum v_trial_size v_trial_stations r_survey_places r_trial_rows)) (va_runS (As := [.int r35, .int x2]) (rest := []) ⟨hx, hb, hml, hown, hts⟩ (m_X5_holds l dC dI k H.size  r35 x2 e38) (va_cwS 2 hts gX5_isTrue_X5_holds rfl rfl rfl (by decide +kernel) ⟨Nat.le_of_ble_eq_true rfl, Nat.le_of_ble_eq_true rfl⟩) (g_preS hG hP hD hS hA [] rfl (by decide)) rfl rfl hl.1 rfl (lv_room (Nat.le_of_ble_eq_true rfl)) dX5_isTrue_179 ⟨Nat.le_of_ble_eq_true rfl, Nat.le_of_ble_eq_true rfl⟩) hP hD hS hA [] [0, 1, 2, 3, 4] [0, 1, 2, 3, 4] rfl rfl (by decide) (by decide) rfl (by decide) (fun H locs hP hD hS => ?_)
                refine lv_iload hx hb dX5_isTrue_182 (lv_at hl 4 rfl) ?_
                refine lv_iconst (v := (1 : Int32)) hx hb dX5_isTrue_184 (by decide) ?_
                refine lv_icmp_ne (tgt := 192) hx hb dX5_isTrue_185 (by decide) (fun c39 => ?_) (fun c39 => ?_)
                · replace hm := ifn c39 hm
                  refine lv_iconst (v := (0 : Int32)) hx hb dX5_isTrue_192 (by decide) ?_
                  exact J_193 _ _ _ _ _ _ (lv_sub hl [] rfl) hP hD hS hm
                · replace hm := ifp c39 hm
                  refine lv_iconst (v := (1 : Int32)) hx hb dX5_isTrue_188 (by decide) ?_
                  refine lv_goto (tgt := 193) hx hb dX5_isTrue_189 (by decide) ?_
                  exact J_193 _ _ _ _ _ _ (lv_sub hl [] rfl) hP hD hS hm
        · replace hm := ifn c29 hm
          refine lv_tableOut (tgt := 202) hx hb dX5_isTrue_1 (by have qc2 := i32_ne c2 (z := 4) (by decide); have qc14 := i32_ne c14 (z := 5) (by decide); have qc19 := i32_ne c19 (z := 6) (by decide); have qc29 := i32_ne c29 (z := 7) (by decide); omega) (by decide) ?_
          refine lv_iconst (v := (0 : Int32)) hx hb dX5_isTrue_202 (by decide) ?_
          exact RET _ _ _ _ _ _ dX5_isTrue_203 hm (by decide +kernel) hP hD hS
set_option maxRecDepth 100000 in
theorem m_X5_isTrue (l : Launch) (dC : Nat → ClassId) (dI : Nat → Nat → Nat) (k : Nat → ClassId) (F : Nat) (sz : Nat) (n_t n_text n_now n_past n_slots n_sightings n_survey n_trial n_survey_places n_survey_equations n_trial_rows : Nat) (v_filledSlots : Int32) (v_seedNow : Int64) (v_survey_divisor : Int64) (v_survey_squareSum : Int64) (v_trial_size : Int32) (v_trial_stations : Int32) (r_survey_places : Nat → Int32) (r_trial_rows : Nat → Int32) (x1 : Int32) (x2 : Int32) (x3 : Int32) (x4 : Int32) {o_r : Int32} {o_r_survey_places : (Nat → Int32)} (hm : f_X5_isTrue F x1 x2 x3 x4 r_survey_places v_trial_size v_trial_stations r_trial_rows = some (o_r, o_r_survey_places)) : Met l yX5_isTrue wsX5_isTrue rm_X5_isTrue (gPre dC dI k [.ref n_t, .int x1, .int x2, .int x3, .int x4] sz (wd_b86ec1 k n_t n_text n_now n_past n_slots n_sightings n_survey n_trial n_survey_places n_survey_equations n_trial_rows v_filledSlots v_seedNow v_survey_divisor v_survey_squareSum v_trial_size v_trial_stations r_survey_places r_trial_rows)) (gQI dC dI (va_A (wd_b86ec1 k n_t n_text n_now n_past n_slots n_sightings n_survey n_trial n_survey_places n_survey_equations n_trial_rows v_filledSlots v_seedNow v_survey_divisor v_survey_squareSum v_trial_size v_trial_stations r_survey_places r_trial_rows) sz) o_r (wd_b86ec1 k n_t n_text n_now n_past n_slots n_sightings n_survey n_trial n_survey_places n_survey_equations n_trial_rows v_filledSlots v_seedNow v_survey_divisor v_survey_squareSum v_trial_size v_trial_stations o_r_survey_places r_trial_rows)) 0 0 (va_A (wd_b86ec1 k n_t n_text n_now n_past n_slots n_sightings n_survey n_trial n_survey_places n_survey_equations n_trial_rows v_filledSlots v_seedNow v_survey_divisor v_survey_squareSum v_trial_size v_trial_stations r_survey_places r_trial_rows) sz) := by
  refine g_entry (cc := cX5_isTrue) (maxL := 5) (ret := (some .boolean)) (lv := [(0, .ref n_t), (1, .int x1), (2, .int x2), (3, .int x3), (4, .int x4)]) (by decide +kernel) rfl (Nat.le_of_ble_eq_true rfl) rfl (fun p e s m below meth c ls hx hb hr hml hts hown hlk hnm hsz hG hA hP hD hS hl => ?_)
  exact k_X5_isTrue hx hb hml hts hown hG hA F n_t n_text n_now n_past n_slots n_sightings n_survey n_trial n_survey_places n_survey_equations n_trial_rows v_filledSlots v_seedNow v_survey_divisor v_survey_squareSum v_trial_size v_trial_stations r_survey_places r_trial_rows x1 x2 x3 x4 o_r o_r_survey_places (fun pc H locs ls v q_r_survey_places hd ho hz hP hD hS => by cases ho; exact g_iretz hx hb hr hlk hP hD hS hz hd) s.heap [] ls hl hP hD hS hm
end
section
set_option maxHeartbeats 4000000 in
set_option maxRecDepth 100000 in
theorem k_X5_passes {p : Program} {l : Launch} {e : Env} {s : State} {m : MethodId} {args : Array Value} {below : List Frame} {meth : Method} {c : Code} {A : Nat → Prop} {Q : State → Prop} {dC : Nat → ClassId} {dI : Nat → Nat → Nat} {k : Nat → ClassId} (hx : p.tables.exec = Jvm.exec) (hb : c.code = cX5_passes) (hml : c.maxLocals = 6) (hts : ∀ w ∈ wsX5_passes, w.before args s = true) (hown : s.vm.findClass RX5 = some m.cls) (hG : gK dC dI k A s) (hA : ∀ q : Nat, s.heap.size ≤ q → A q) (F : Nat) (n_t n_text n_now n_past n_slots n_sightings n_survey n_trial n_survey_places n_survey_equations n_trial_rows : Nat) (v_filledSlots : Int32) (v_seedNow : Int64) (v_survey_divisor : Int64) (v_survey_squareSum : Int64) (v_trial_size : Int32) (v_trial_stations : Int32) (r_survey_places : Nat → Int32) (r_trial_rows : Nat → Int32) (x1 : Int32) (o_r : Int32) (o_r_survey_places : (Nat → Int32)) (o_v_trial_size : (Int32)) (o_r_trial_rows : (Nat → Int32)) (RET : ∀ (pc : Nat) (H : Heap) (locs : List Loc) (ls : Array Slot) (v : Int32) (q_r_survey_places : Nat → Int32) (q_v_trial_size : Int32) (q_r_trial_rows : Nat → Int32), decode cX5_passes pc = .ok (.ireturn, 1) → some (v, q_r_survey_places, q_v_trial_size, q_r_trial_rows) = some (o_r, o_r_survey_places, o_v_trial_size, o_r_trial_rows) → narrow .boolean (.int v) = .int v → va_P (dC, dI) vwCl (wd_b86ec1 k n_t n_text n_now n_past n_slots n_sightings n_survey n_trial n_survey_places n_survey_equations n_trial_rows v_filledSlots v_seedNow v_survey_divisor v_survey_squareSum q_v_trial_size v_trial_stations q_r_survey_places q_r_trial_rows) H → va_D A (wd_b86ec1 k n_t n_text n_now n_past n_slots n_sightings n_survey n_trial n_survey_places n_survey_equations n_trial_rows v_filledSlots v_seedNow v_survey_divisor v_survey_squareSum q_v_trial_size v_trial_stations q_r_survey_places q_r_trial_rows) → va_S A s.heap H locs → W p l e rm_X5_passes s m args below meth c H locs 0 0 Q (F0 m pc ls [.int v])) (H : Heap) (locs : List Loc) (ls : Array Slot) (hl : lv_has ls 6 [(0, .ref n_t), (1, .int x1)]) (hP : va_P (dC, dI) vwCl (wd_b86ec1 k n_t n_text n_now n_past n_slots n_sightings n_survey n_trial n_survey_places n_survey_equations n_trial_rows v_filledSlots v_seedNow v_survey_divisor v_survey_squareSum v_trial_size v_trial_stations r_survey_places r_trial_rows) H) (hD : va_D A (wd_b86ec1 k n_t n_text n_now n_past n_slots n_sightings n_survey n_trial n_survey_places n_survey_equations n_trial_rows v_filledSlots v_seedNow v_survey_divisor v_survey_squareSum v_trial_size v_trial_stations r_survey_places r_trial_rows)) (hS : va_S A s.heap H locs) (hm : f_X5_passes F x1 r_survey_places v_trial_size v_trial_stations r_trial_rows = some (o_r, o_r_survey_places, o_v_trial_size, o_r_trial_rows)) : W p l e rm_X5_passes s m args below meth c H locs 0 0 Q (F0 m 0 ls []) := by
  unfold f_X5_passes at hm
  refine lv_iload_n hx hb dX5_passes_0 rfl (lv_at hl 1 rfl) ?_
  refine lv_sipush (v := (1000 : Int32)) hx hb dX5_passes_1 (by decide) ?_
  refine lv_idiv hx hb dX5_passes_4 (by decide) ?_
  refine lv_topi (fun t1 et1 => ?_)
  replace hm := (nmd_eq et1).trans hm
  refine lv_istore_n (lv' := [(2, .int t1), (0, .ref n_t), (1, .int x1)]) hx hb dX5_passes_5 rfl hl (by decide) rfl (fun ls hl => ?_)
  refine lv_iload_n hx hb dX5_passes_6 rfl (lv_at hl 2 rfl) ?_
  refine lv_bipush (v := (100 : Int32)) hx hb dX5_passes_7 (by decide) ?_
  refine lv_idiv hx hb dX5_passes_9 (by decide) ?_
  refine lv_bipush (v := (10 : Int32)) hx hb dX5_passes_10 (by decide) ?_
  refine g_irem hx hb dX5_passes_12 (by decide) ?_
  refine lv_topi (fun t2 et2 => ?_)
  replace hm := (nmd_eq et2).trans hm
  refine lv_istore_n (lv' := [(3, .int t2), (2, .int t1), (0, .ref n_t), (1, .int x1)]) hx hb dX5_passes_13 rfl hl (by decide) rfl (fun ls hl => ?_)
  refine lv_iload_n hx hb dX5_passes_14 rfl (lv_at hl 3 rfl) ?_
  refine lv_bipush (v := (10 : Int32)) hx hb dX5_passes_15 (by decide) ?_
  refine lv_idiv hx hb dX5_passes_17 (by decide) ?_
  refine lv_bipush (v := (10 : Int32)) hx hb dX5_passes_18 (by decide) ?_
  refine g_irem hx hb dX5_passes_20 (by decide) ?_
  refine lv_topi (fun t3 et3 => ?_)
  replace hm := (nmd_eq et3).trans hm
  refine lv_istore (lv' := [(4, .int t3), (3, .int t2), (2, .int t1), (0, .ref n_t), (1, .int x1)]) hx hb dX5_passes_21 hl (by decide) rfl (fun ls hl => ?_)
  refine lv_iload_n hx hb dX5_passes_23 rfl (lv_at hl 4 rfl) ?_
  refine lv_bipush (v := (10 : Int32)) hx hb dX5_passes_24 (by decide) ?_
  refine g_irem hx hb dX5_passes_26 (by decide) ?_
  refine lv_topi (fun t4 et4 => ?_)
  replace hm := (nmd_eq et4).trans hm
  refine lv_istore (lv' := [(5, .int t4), (4, .int t3), (3, .int t2), (2, .int t1), (0, .ref n_t), (1, .int x1)]) hx hb dX5_passes_27 hl (by decide) rfl (fun ls hl => ?_)
  refine lv_iload_n hx hb dX5_passes_29 rfl (lv_at hl 3 rfl) ?_
  refine lv_iconst (v := (3 : Int32)) hx hb dX5_passes_30 (by decide) ?_
  refine lv_icmp_gt (tgt := 47) hx hb dX5_passes_31 (by decide) (fun c5 => ?_) (fun c5 => ?_)
  · replace hm := ifp c5 hm
    refine lv_aload_n hx hb dX5_passes_47 rfl (lv_at hl 4 rfl) ?_
    refine lv_iload_n hx hb dX5_passes_48 rfl (lv_at hl 3 rfl) ?_
    refine lv_iload_n hx hb dX5_passes_49 rfl (lv_at hl 2 rfl) ?_
    refine lv_iload hx hb dX5_passes_50 (lv_at hl 1 rfl) ?_
    refine lv_iload hx hb dX5_passes_52 (lv_at hl 0 rfl) ?_
    obtain ⟨r6, w7, e8, hm⟩ := bnd2_some hm
    refine g_calli (w2 := (wd_b86ec1 k n_t n_text n_now n_past n_slots n_sightings n_survey n_trial n_survey_places n_survey_equations n_trial_rows v_filledSlots v_seedNow v_survey_divisor v_survey_squareSum v_trial_size v_trial_stations w7 r_trial_rows)) (va_runV (As := [.int t1, .int t2, .int t3, .int t4]) (rest := []) ⟨hx, hb, hml, hown, hts⟩ (m_X5_isTrue l dC dI k F H.size n_t n_text n_now n_past n_slots n_sightings n_survey n_trial n_survey_places n_survey_equations n_trial_rows v_filledSlots v_seedNow v_survey_divisor v_survey_squareSum v_trial_size v_trial_stations r_survey_places r_trial_rows t1 t2 t3 t4 e8) (cwV 4 hts gX5_passes_X5_isTrue rfl rfl rfl (by decide +kernel) ⟨Nat.le_of_ble_eq_true rfl, Nat.le_of_ble_eq_true rfl⟩) (g_preV hG hP hD hS hA [0, 1, 2, 3, 4] rfl (by decide) (ci := 5) (q0 := 0) rfl rfl) rfl rfl hl.1 rfl (lv_room (Nat.le_of_ble_eq_true rfl)) dX5_passes_54 ⟨Nat.le_of_ble_eq_true rfl, Nat.le_of_ble_eq_true rfl⟩) hP hD hS hA [0, 1, 2, 3, 4] [] [0, 1, 2, 3, 4] rfl rfl (by decide) (by decide) rfl (by decide) (fun H locs hP hD hS => ?_)
    obtain ⟨hz9, hm⟩ := chkZ_some hm
    exact RET _ _ _ _ _ _ _ _ dX5_passes_57 hm hz9 hP hD hS
  · replace hm := ifn c5 hm
    refine lv_aload_n hx hb dX5_passes_34 rfl (lv_at hl 4 rfl) ?_
    refine lv_iload_n hx hb dX5_passes_35 rfl (lv_at hl 3 rfl) ?_
    refine lv_iload_n hx hb dX5_passes_36 rfl (lv_at hl 2 rfl) ?_
    refine lv_iload hx hb dX5_passes_37 (lv_at hl 1 rfl) ?_
    refine lv_iload hx hb dX5_passes_39 (lv_at hl 0 rfl) ?_
    obtain ⟨r10, w11, w12, e13, hm⟩ := bnd3_some hm
    refine g_calli (w2 := (wd_b86ec1 k n_t n_text n_now n_past n_slots n_sightings n_survey n_trial n_survey_places n_survey_equations n_trial_rows v_filledSlots v_seedNow v_survey_divisor v_survey_squareSum w11 v_trial_stations r_survey_places w12)) (va_runV (As := [.int t1, .int t2, .int t3, .int t4]) (rest := []) ⟨hx, hb, hml, hown, hts⟩ (m_X5_carriesOut l dC dI k F H.size n_t n_text n_now n_past n_slots n_sightings n_survey n_trial n_trial_rows v_filledSlots v_seedNow v_trial_size v_trial_stations r_trial_rows t1 t2 t3 t4 e13) (cwV 4 hts gX5_passes_X5_carriesOut rfl rfl rfl (by decide +kernel) ⟨Nat.le_of_ble_eq_true rfl, Nat.le_of_ble_eq_true rfl⟩) (g_preV hG hP hD hS hA [0, 3, 4] rfl (by decide) (ci := 5) (q0 := 0) rfl rfl) rfl rfl hl.1 rfl (lv_room (Nat.le_of_ble_eq_true rfl)) dX5_passes_41 ⟨Nat.le_of_ble_eq_true rfl, Nat.le_of_ble_eq_true rfl⟩) hP hD hS hA [0, 3, 4] [1, 2] [2, 0, 1, 3, 4] rfl rfl (by decide) (by decide) rfl (by decide) (fun H locs hP hD hS => ?_)
    refine lv_goto (tgt := 57) hx hb dX5_passes_44 (by decide) ?_
    obtain ⟨hz14, hm⟩ := chkZ_some hm
    exact RET _ _ _ _ _ _ _ _ dX5_passes_57 hm hz14 hP hD hS
set_option maxRecDepth 100000 in
theorem m_X5_passes (l : Launch) (dC : Nat → ClassId) (dI : Nat → Nat → Nat) (k : Nat → ClassId) (F : Nat) (sz : Nat) (n_t n_text n_now n_past n_slots n_sightings n_survey n_trial n_survey_places n_survey_equations n_trial_rows : Nat) (v_filledSlots : Int32) (v_seedNow : Int64) (v_survey_divisor : Int64) (v_survey_squareSum : Int64) (v_trial_size : Int32) (v_trial_stations : Int32) (r_survey_places : Nat → Int32) (r_trial_rows : Nat → Int32) (x1 : Int32) {o_r : Int32} {o_r_survey_places : (Nat → Int32)} {o_v_trial_size : (Int32)} {o_r_trial_rows : (Nat → Int32)} (hm : f_X5_passes F x1 r_survey_places v_trial_size v_trial_stations r_trial_rows = some (o_r, o_r_survey_places, o_v_trial_size, o_r_trial_rows)) : Met l yX5_passes wsX5_passes rm_X5_passes (gPre dC dI k [.ref n_t, .int x1] sz (wd_b86ec1 k n_t n_text n_now n_past n_slots n_sightings n_survey n_trial n_survey_places n_survey_equations n_trial_rows v_filledSlots v_seedNow v_survey_divisor v_survey_squareSum v_trial_size v_trial_stations r_survey_places r_trial_rows)) (gQI dC dI (va_A (wd_b86ec1 k n_t n_text n_now n_past n_slots n_sightings n_survey n_trial n_survey_places n_survey_equations n_trial_rows v_filledSlots v_seedNow v_survey_divisor v_survey_squareSum v_trial_size v_trial_stations r_survey_places r_trial_rows) sz) o_r (wd_b86ec1 k n_t n_text n_now n_past n_slots n_sightings n_survey n_trial n_survey_places n_survey_equations n_trial_rows v_filledSlots v_seedNow v_survey_divisor v_survey_squareSum o_v_trial_size v_trial_stations o_r_survey_places o_r_trial_rows)) 0 0 (va_A (wd_b86ec1 k n_t n_text n_now n_past n_slots n_sightings n_survey n_trial n_survey_places n_survey_equations n_trial_rows v_filledSlots v_seedNow v_survey_divisor v_survey_squareSum v_trial_size v_trial_stations r_survey_places r_trial_rows) sz) := by
  refine g_entry (cc := cX5_passes) (maxL := 6) (ret := (some .boolean)) (lv := [(0, .ref n_t), (1, .int x1)]) (by decide +kernel) rfl (Nat.le_of_ble_eq_true rfl) rfl (fun p e s m below meth c ls hx hb hr hml hts hown hlk hnm hsz hG hA hP hD hS hl => ?_)
  exact k_X5_passes hx hb hml hts hown hG hA F n_t n_text n_now n_past n_slots n_sightings n_survey n_trial n_survey_places n_survey_equations n_trial_rows v_filledSlots v_seedNow v_survey_divisor v_survey_squareSum v_trial_size v_trial_stations r_survey_places r_trial_rows x1 o_r o_r_survey_places o_v_trial_size o_r_trial_rows (fun pc H locs ls v q_r_survey_places q_v_trial_size q_r_trial_rows hd ho hz hP hD hS => by cases ho; exact g_iretz hx hb hr hlk hP hD hS hz hd) s.heap [] ls hl hP hD hS hm
end
section
set_option maxHeartbeats 4000000 in
set_option maxRecDepth 100000 in
theorem k_X5_judge {p : Program} {l : Launch} {e : Env} {s : State} {m : MethodId} {args : Array Value} {below : List Frame} {meth : Method} {c : Code} {A : Nat → Prop} {Q : State → Prop} {dC : Nat → ClassId} {dI : Nat → Nat → Nat} {k : Nat → ClassId} (hx : p.tables.exec = Jvm.exec) (hb : c.code = cX5_judge) (hml : c.maxLocals = 5) (hts : ∀ w ∈ wsX5_judge, w.before args s = true) (hown : s.vm.findClass RX5 = some m.cls) (hG : gK dC dI k A s) (hA : ∀ q : Nat, s.heap.size ≤ q → A q) (F : Nat) (n_t n_text n_now n_past n_slots n_sightings n_survey n_trial n_now_rows n_survey_places n_survey_equations n_trial_rows : Nat) (v_filledSlots : Int32) (v_seedNow : Int64) (v_now_size : Int32) (v_now_stations : Int32) (v_survey_divisor : Int64) (v_survey_squareSum : Int64) (v_trial_size : Int32) (v_trial_stations : Int32) (r_now_rows : Nat → Int32) (r_survey_places : Nat → Int32) (r_trial_rows : Nat → Int32) (x1 : Int32) (x2 : Int64) (o_r : Int32) (o_r_survey_places : (Nat → Int32)) (o_v_trial_size : (Int32)) (o_v_trial_stations : (Int32)) (o_r_trial_rows : (Nat → Int32)) (RET : ∀ (pc : Nat) (H : Heap) (locs : List Loc) (ls : Array Slot) (v : Int32) (q_r_survey_places : Nat → Int32) (q_v_trial_size : Int32) (q_v_trial_stations : Int32) (q_r_trial_rows : Nat → Int32), decode cX5_judge pc = .ok (.ireturn, 1) → some (v, q_r_survey_places, q_v_trial_size, q_v_trial_stations, q_r_trial_rows) = some (o_r, o_r_survey_places, o_v_trial_size, o_v_trial_stations, o_r_trial_rows) → va_P (dC, dI) vwCl (wd_167101 k n_t n_text n_now n_past n_slots n_sightings n_survey n_trial n_now_rows n_survey_places n_survey_equations n_trial_rows v_filledSlots v_seedNow v_now_size v_now_stations v_survey_divisor v_survey_squareSum q_v_trial_size q_v_trial_stations r_now_rows q_r_survey_places q_r_trial_rows) H → va_D A (wd_167101 k n_t n_text n_now n_past n_slots n_sightings n_survey n_trial n_now_rows n_survey_places n_survey_equations n_trial_rows v_filledSlots v_seedNow v_now_size v_now_stations v_survey_divisor v_survey_squareSum q_v_trial_size q_v_trial_stations r_now_rows q_r_survey_places q_r_trial_rows) → va_S A s.heap H locs → W p l e rm_X5_judge s m args below meth c H locs 0 0 Q (F0 m pc ls [.int v])) (H : Heap) (locs : List Loc) (ls : Array Slot) (hl : lv_has ls 5 [(0, .ref n_t), (1, .int x1), (2, .long x2)]) (hP : va_P (dC, dI) vwCl (wd_167101 k n_t n_text n_now n_past n_slots n_sightings n_survey n_trial n_now_rows n_survey_places n_survey_equations n_trial_rows v_filledSlots v_seedNow v_now_size v_now_stations v_survey_divisor v_survey_squareSum v_trial_size v_trial_stations r_now_rows r_survey_places r_trial_rows) H) (hD : va_D A (wd_167101 k n_t n_text n_now n_past n_slots n_sightings n_survey n_trial n_now_rows n_survey_places n_survey_equations n_trial_rows v_filledSlots v_seedNow v_now_size v_now_stations v_survey_divisor v_survey_squareSum v_trial_size v_trial_stations r_now_rows r_survey_places r_trial_rows)) (hS : va_S A s.heap H locs) (hm : f_X5_judge F x1 x2 v_now_size v_now_stations r_now_rows r_survey_places v_trial_size v_trial_stations r_trial_rows = some (o_r, o_r_survey_places, o_v_trial_size, o_v_trial_stations, o_r_trial_rows)) : W p l e rm_X5_judge s m args below meth c H locs 0 0 Q (F0 m 0 ls []) := by
  have hinX5 : ∀ w ∈ u_ws RX5 TX5 9, w ∈ wsX5_judge := by decide +kernel
  have k0 := hts (.constantLong RX5 201 (10000)) (by decide +kernel)
  have k1 := hts (.fieldLink RX5 48 "CaveLegs" "trial" "LCaveLegs$Legs;") (by decide +kernel)
  have k2 := hts (.fieldLink RX5 19 "CaveLegs" "now" "LCaveLegs$Legs;") (by decide +kernel)
  have L_43 : ∀ (n43 : Nat) (r_survey_places : Nat → Int32) (v_trial_size : Int32) (v_trial_stations : Int32) (r_trial_rows : Nat → Int32) (x1 : Int32) (x2 : Int64) (x4 : Int32) (H : Heap) (locs : List Loc) (ls : Array Slot), lv_has ls 5 [(0, .ref n_t), (1, .int x1), (2, .long x2), (4, .int x4)] → va_P (dC, dI) vwCl (wd_167101 k n_t n_text n_now n_past n_slots n_sightings n_survey n_trial n_now_rows n_survey_places n_survey_equations n_trial_rows v_filledSlots v_seedNow v_now_size v_now_stations v_survey_divisor v_survey_squareSum v_trial_size v_trial_stations r_now_rows r_survey_places r_trial_rows) H → va_D A (wd_167101 k n_t n_text n_now n_past n_slots n_sightings n_survey n_trial n_now_rows n_survey_places n_survey_equations n_trial_rows v_filledSlots v_seedNow v_now_size v_now_stations v_survey_divisor v_survey_squareSum v_trial_size v_trial_stations r_now_rows r_survey_places r_trial_rows) → va_S A s.heap H locs → f_X5_judge_L43 F v_now_size v_now_stations r_now_rows n43 r_survey_places v_trial_size v_trial_stations r_trial_rows x1 x2 x4 = some (o_r, o_r_survey_places, o_v_trial_size, o_v_trial_stations, o_r_trial_rows) → W p l e rm_X5_judge s m args below meth c H locs 0 0 Q (F0 m 43 ls []) := by
    intro n43
    induction n43 with
    | zero =>
      intro r_survey_places v_trial_size v_trial_stations r_trial_rows x1 x2 x4 H locs ls hl hP hD hS hm
      exact non_some hm
    | succ n43 ih43 =>
      intro r_survey_places v_trial_size v_trial_stations r_trial_rows x1 x2 x4 H locs ls hl hP hD hS hm
      replace hm : f_X5_judge_B43 F v_now_size v_now_stations r_now_rows (f_X5_judge_L43 F v_now_size v_now_stations r_now_rows n43) r_survey_places v_trial_size v_trial_stations r_trial_rows x1 x2 x4 = some (o_r, o_r_survey_places, o_v_trial_size, o_v_trial_stations, o_r_trial_rows) := hm
      unfold f_X5_judge_B43 at hm
      refine lv_iload hx hb dX5_judge_43 (lv_at hl 3 rfl) ?_
      refine lv_iload_n hx hb dX5_judge_45 rfl (lv_at hl 1 rfl) ?_
      refine lv_icmp_ge (tgt := 80) hx hb dX5_judge_46 (by decide) (fun c1 => ?_) (fun c1 => ?_)
      · replace hm := ifp c1 hm
        refine lv_bipush (v := (-9 : Int32)) hx hb dX5_judge_80 (by decide) ?_
        exact RET _ _ _ _ _ _ _ _ _ dX5_judge_82 hm hP hD hS
      · replace hm := ifn c1 hm
        refine lv_aload_n hx hb dX5_judge_49 rfl (lv_at hl 0 rfl) ?_
        refine lv_lload_n hx hb dX5_judge_50 rfl (lv_at hl 2 rfl) ?_
        refine lv_iload_n hx hb dX5_judge_51 rfl (lv_at hl 1 rfl) ?_
        refine lv_iconst (v := (1 : Int32)) hx hb dX5_judge_52 (by decide) ?_
        refine lv_isub hx hb dX5_judge_53 ?_
        refine lv_iload hx hb dX5_judge_54 (lv_at hl 3 rfl) ?_
        refine lv_isub hx hb dX5_judge_56 ?_
        obtain ⟨r2, e3, hm⟩ := bnd1_some hm
        refine g_calll (w2 := (wd_167101 k n_t n_text n_now n_past n_slots n_sightings n_survey n_trial n_now_rows n_survey_places n_survey_equations n_trial_rows v_filledSlots v_seedNow v_now_size v_now_stations v_survey_divisor v_survey_squareSum v_trial_size v_trial_stations r_now_rows r_survey_places r_trial_rows)) (va_runS (As := [.long x2, .int ((x1 - (1 : Int32)) - x4)]) (rest := [.ref n_t]) ⟨hx, hb, hml, hown, hts⟩ (m_X5_withoutLast l dC dI k F H.size  x2 ((x1 - (1 : Int32)) - x4) e3) (va_cwS 2 hts gX5_judge_X5_withoutLast rfl rfl rfl (by decide +kernel) ⟨Nat.le_of_ble_eq_true rfl, Nat.le_of_ble_eq_true rfl⟩) (g_preS hG hP hD hS hA [] rfl (by decide)) rfl rfl hl.1 rfl (lv_room (Nat.le_of_ble_eq_true rfl)) dX5_judge_57 ⟨Nat.le_of_ble_eq_true rfl, Nat.le_of_ble_eq_true rfl⟩) hP hD hS hA [] [0, 1, 2, 3, 4, 5, 6] [0, 1, 2, 3, 4, 5, 6] rfl rfl (by decide) (by decide) rfl (by decide) (fun H locs hP hD hS => ?_)
        refine lv_ldc2 (v := (10000 : Int64)) hx hb hown k0 dX5_judge_60 ?_
        refine g_lrem hx hb dX5_judge_63 (by decide) ?_
        refine g_l2i hx hb dX5_judge_64 ?_
        obtain ⟨r4, w5, w6, w7, e8, hm⟩ := bnd4_some hm
        refine g_calli (w2 := (wd_167101 k n_t n_text n_now n_past n_slots n_sightings n_survey n_trial n_now_rows n_survey_places n_survey_equations n_trial_rows v_filledSlots v_seedNow v_now_size v_now_stations v_survey_divisor v_survey_squareSum w6 v_trial_stations r_now_rows w5 w7)) (va_runV (As := [.int (Int64.toInt32 (remL r2 (10000 : Int64)))]) (rest := []) ⟨hx, hb, hml, hown, hts⟩ (m_X5_passes l dC dI k F H.size n_t n_text n_now n_past n_slots n_sightings n_survey n_trial n_survey_places n_survey_equations n_trial_rows v_filledSlots v_seedNow v_survey_divisor v_survey_squareSum v_trial_size v_trial_stations r_survey_places r_trial_rows (Int64.toInt32 (remL r2 (10000 : Int64))) e8) (cwV 1 hts gX5_judge_X5_passes rfl rfl rfl (by decide +kernel) ⟨Nat.le_of_ble_eq_true rfl, Nat.le_of_ble_eq_true rfl⟩) (g_preV hG hP hD hS hA [0, 3, 4, 5, 6] rfl (by decide) (ci := 5) (q0 := 0) rfl rfl) rfl rfl hl.1 rfl (lv_room (Nat.le_of_ble_eq_true rfl)) dX5_judge_65 ⟨Nat.le_of_ble_eq_true rfl, Nat.le_of_ble_eq_true rfl⟩) hP hD hS hA [0, 3, 4, 5, 6] [1, 2] [2, 0, 1, 3, 4, 5, 6] rfl rfl (by decide) (by decide) rfl (by decide) (fun H locs hP hD hS => ?_)
        refine lv_if_ne (tgt := 74) hx hb dX5_judge_68 (by decide) (fun c9 => ?_) (fun c9 => ?_)
        · replace hm := ifn c9 hm
          obtain ⟨t10, et10⟩ : ∃ y : Int32, y = x4 + (1 : Int32) := ⟨_, rfl⟩
          replace hm := (nmd_eq et10).trans hm
          refine lv_iinc (v := t10) (lv' := [(4, .int t10), (0, .ref n_t), (1, .int x1), (2, .long x2)]) hx hb dX5_judge_74 hl (k := 3) rfl (by rw [et10]; rfl) (by decide) rfl (fun ls hl => ?_)
          refine lv_goto (tgt := 43) hx hb dX5_judge_77 (by decide) ?_
          exact ih43 _ _ _ _ _ _ _ _ _ _ (lv_sub hl [1, 2, 3, 0] rfl) hP hD hS hm
        · replace hm := ifp c9 hm
          refine lv_iload hx hb dX5_judge_71 (lv_at hl 3 rfl) ?_
          exact RET _ _ _ _ _ _ _ _ _ dX5_judge_73 hm hP hD hS
  unfold f_X5_judge at hm
  refine lv_iload_n hx hb dX5_judge_0 rfl (lv_at hl 1 rfl) ?_
  refine lv_iconst (v := (1 : Int32)) hx hb dX5_judge_1 (by decide) ?_
  refine lv_icmp_lt (tgt := 26) hx hb dX5_judge_2 (by decide) (fun c11 => ?_) (fun c11 => ?_)
  · replace hm := ifp c11 hm
    refine lv_bipush (v := (-2 : Int32)) hx hb dX5_judge_26 (by decide) ?_
    exact RET _ _ _ _ _ _ _ _ _ dX5_judge_28 hm hP hD hS
  · replace hm := ifn c11 hm
    refine lv_iload_n hx hb dX5_judge_5 rfl (lv_at hl 1 rfl) ?_
    refine lv_iconst (v := (4 : Int32)) hx hb dX5_judge_6 (by decide) ?_
    refine lv_icmp_gt (tgt := 26) hx hb dX5_judge_7 (by decide) (fun c12 => ?_) (fun c12 => ?_)
    · replace hm := ifp c12 hm
      refine lv_bipush (v := (-2 : Int32)) hx hb dX5_judge_26 (by decide) ?_
      exact RET _ _ _ _ _ _ _ _ _ dX5_judge_28 hm hP hD hS
    · replace hm := ifn c12 hm
      refine lv_lload_n hx hb dX5_judge_10 rfl (lv_at hl 2 rfl) ?_
      refine lv_lconst (v := (0 : Int64)) hx hb dX5_judge_11 (by decide) ?_
      refine g_lcmp_lt (tgt := 26) hx hb dX5_judge_12 rfl dX5_judge_13 (by decide) (fun c13 => ?_) (fun c13 => ?_)
      · replace hm := ifp c13 hm
        refine lv_bipush (v := (-2 : Int32)) hx hb dX5_judge_26 (by decide) ?_
        exact RET _ _ _ _ _ _ _ _ _ dX5_judge_28 hm hP hD hS
      · replace hm := ifn c13 hm
        refine lv_lload_n hx hb dX5_judge_16 rfl (lv_at hl 2 rfl) ?_
        refine lv_iload_n hx hb dX5_judge_17 rfl (lv_at hl 1 rfl) ?_
        obtain ⟨r14, e15, hm⟩ := bnd1_some hm
        refine g_calll (w2 := (wd_167101 k n_t n_text n_now n_past n_slots n_sightings n_survey n_trial n_now_rows n_survey_places n_survey_equations n_trial_rows v_filledSlots v_seedNow v_now_size v_now_stations v_survey_divisor v_survey_squareSum v_trial_size v_trial_stations r_now_rows r_survey_places r_trial_rows)) (va_runS (As := [.long x2, .int x1]) (rest := []) ⟨hx, hb, hml, hown, hts⟩ (m_X5_withoutLast l dC dI k F H.size  x2 x1 e15) (va_cwS 2 hts gX5_judge_X5_withoutLast rfl rfl rfl (by decide +kernel) ⟨Nat.le_of_ble_eq_true rfl, Nat.le_of_ble_eq_true rfl⟩) (g_preS hG hP hD hS hA [] rfl (by decide)) rfl rfl hl.1 rfl (lv_room (Nat.le_of_ble_eq_true rfl)) dX5_judge_18 ⟨Nat.le_of_ble_eq_true rfl, Nat.le_of_ble_eq_true rfl⟩) hP hD hS hA [] [0, 1, 2, 3, 4, 5, 6] [0, 1, 2, 3, 4, 5, 6] rfl rfl (by decide) (by decide) rfl (by decide) (fun H locs hP hD hS => ?_)
        refine lv_lconst (v := (0 : Int64)) hx hb dX5_judge_21 (by decide) ?_
        refine g_lcmp_eq (tgt := 29) hx hb dX5_judge_22 rfl dX5_judge_23 (by decide) (fun c16 => ?_) (fun c16 => ?_)
        · replace hm := ifp c16 hm
          refine lv_aload_n hx hb dX5_judge_29 rfl (lv_at hl 0 rfl) ?_
          refine va_get (D := (dC, dI)) (ci := 5) (v := .ref n_trial) (C := RX5) (T := TX5) (N := 9) hx hb hts hinX5 hown hG.1 hP 0 rfl rfl 6 (by decide) k1 (fun _ h9 => h9) rfl dX5_judge_30 ?_
          refine lv_aload_n hx hb dX5_judge_33 rfl (lv_at hl 0 rfl) ?_
          refine va_get (D := (dC, dI)) (ci := 5) (v := .ref n_now) (C := RX5) (T := TX5) (N := 9) hx hb hts hinX5 hown hG.1 hP 0 rfl rfl 1 (by decide) k2 (fun _ h9 => h9) rfl dX5_judge_34 ?_
          obtain ⟨w17, w18, w19, e20, hm⟩ := bnd3_some hm
          refine g_callv (w2 := (wd_167101 k n_t n_text n_now n_past n_slots n_sightings n_survey n_trial n_now_rows n_survey_places n_survey_equations n_trial_rows v_filledSlots v_seedNow v_now_size v_now_stations v_survey_divisor v_survey_squareSum w17 w18 r_now_rows r_survey_places w19)) (va_runV (As := [.ref n_now]) (rest := []) ⟨hx, hb, hml, hown, hts⟩ (m_X0_copy l dC dI k F H.size n_trial n_now n_trial_rows n_now_rows v_trial_size v_trial_stations v_now_size v_now_stations r_trial_rows r_now_rows  e20) (cwV 1 hts gX5_judge_X0_copy rfl rfl rfl (by decide +kernel) ⟨Nat.le_of_ble_eq_true rfl, Nat.le_of_ble_eq_true rfl⟩) (g_preV hG hP hD hS hA [5, 6, 1, 2] rfl (by decide) (ci := 0) (q0 := 5) rfl rfl) rfl rfl hl.1 rfl (lv_room (Nat.le_of_ble_eq_true rfl)) dX5_judge_37 ⟨Nat.le_of_ble_eq_true rfl, Nat.le_of_ble_eq_true rfl⟩) hP hD hS hA [5, 6, 1, 2] [0, 3, 4] [0, 5, 6, 1, 2, 3, 4] rfl rfl (by decide) (by decide) rfl (by decide) (fun H locs hP hD hS => ?_)
          refine lv_iconst (v := (0 : Int32)) hx hb dX5_judge_40 (by decide) ?_
          refine lv_istore (lv' := [(4, .int (0 : Int32)), (0, .ref n_t), (1, .int x1), (2, .long x2)]) hx hb dX5_judge_41 hl (by decide) rfl (fun ls hl => ?_)
          exact L_43 F _ _ _ _ _ _ _ _ _ _ (lv_sub hl [1, 2, 3, 0] rfl) hP hD hS hm
        · replace hm := ifn c16 hm
          refine lv_bipush (v := (-2 : Int32)) hx hb dX5_judge_26 (by decide) ?_
          exact RET _ _ _ _ _ _ _ _ _ dX5_judge_28 hm hP hD hS
set_option maxRecDepth 100000 in
theorem m_X5_judge (l : Launch) (dC : Nat → ClassId) (dI : Nat → Nat → Nat) (k : Nat → ClassId) (F : Nat) (sz : Nat) (n_t n_text n_now n_past n_slots n_sightings n_survey n_trial n_now_rows n_survey_places n_survey_equations n_trial_rows : Nat) (v_filledSlots : Int32) (v_seedNow : Int64) (v_now_size : Int32) (v_now_stations : Int32) (v_survey_divisor : Int64) (v_survey_squareSum : Int64) (v_trial_size : Int32) (v_trial_stations : Int32) (r_now_rows : Nat → Int32) (r_survey_places : Nat → Int32) (r_trial_rows : Nat → Int32) (x1 : Int32) (x2 : Int64) {o_r : Int32} {o_r_survey_places : (Nat → Int32)} {o_v_trial_size : (Int32)} {o_v_trial_stations : (Int32)} {o_r_trial_rows : (Nat → Int32)} (hm : f_X5_judge F x1 x2 v_now_size v_now_stations r_now_rows r_survey_places v_trial_size v_trial_stations r_trial_rows = some (o_r, o_r_survey_places, o_v_trial_size, o_v_trial_stations, o_r_trial_rows)) : Met l yX5_judge wsX5_judge rm_X5_judge (gPre dC dI k [.ref n_t, .int x1, .long x2] sz (wd_167101 k n_t n_text n_now n_past n_slots n_sightings n_survey n_trial n_now_rows n_survey_places n_survey_equations n_trial_rows v_filledSlots v_seedNow v_now_size v_now_stations v_survey_divisor v_survey_squareSum v_trial_size v_trial_stations r_now_rows r_survey_places r_trial_rows)) (gQI dC dI (va_A (wd_167101 k n_t n_text n_now n_past n_slots n_sightings n_survey n_trial n_now_rows n_survey_places n_survey_equations n_trial_rows v_filledSlots v_seedNow v_now_size v_now_stations v_survey_divisor v_survey_squareSum v_trial_size v_trial_stations r_now_rows r_survey_places r_trial_rows) sz) o_r (wd_167101 k n_t n_text n_now n_past n_slots n_sightings n_survey n_trial n_now_rows n_survey_places n_survey_equations n_trial_rows v_filledSlots v_seedNow v_now_size v_now_stations v_survey_divisor v_survey_squareSum o_v_trial_size o_v_trial_stations r_now_rows o_r_survey_places o_r_trial_rows)) 0 0 (va_A (wd_167101 k n_t n_text n_now n_past n_slots n_sightings n_survey n_trial n_now_rows n_survey_places n_survey_equations n_trial_rows v_filledSlots v_seedNow v_now_size v_now_stations v_survey_divisor v_survey_squareSum v_trial_size v_trial_stations r_now_rows r_survey_places r_trial_rows) sz) := by
  refine g_entry (cc := cX5_judge) (maxL := 5) (ret := (some .int)) (lv := [(0, .ref n_t), (1, .int x1), (2, .long x2)]) (by decide +kernel) rfl (Nat.le_of_ble_eq_true rfl) rfl (fun p e s m below meth c ls hx hb hr hml hts hown hlk hnm hsz hG hA hP hD hS hl => ?_)
  exact k_X5_judge hx hb hml hts hown hG hA F n_t n_text n_now n_past n_slots n_sightings n_survey n_trial n_now_rows n_survey_places n_survey_equations n_trial_rows v_filledSlots v_seedNow v_now_size v_now_stations v_survey_divisor v_survey_squareSum v_trial_size v_trial_stations r_now_rows r_survey_places r_trial_rows x1 x2 o_r o_r_survey_places o_v_trial_size o_v_trial_stations o_r_trial_rows (fun pc H locs ls v q_r_survey_places q_v_trial_size q_v_trial_stations q_r_trial_rows hd ho hP hD hS => by cases ho; exact g_ireti hx hb hr hlk hP hD hS hd) s.heap [] ls hl hP hD hS hm
end
