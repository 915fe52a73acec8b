section
set_option maxHeartbeats 4000000 in
set_option maxRecDepth 100000 in
theorem k_X4_canStand {p : Program} {l : Launch} {e : Env} {s : State} {m : MethodId} {args : Array Value} {below : List Frame} {meth : Method} {c : Code} {A : Nat → Prop} {Q : State → Prop} {dC : Nat → ClassId} {dI : Nat → Nat → Nat} {k : Nat → ClassId} (hx : p.tables.exec = Jvm.exec) (hb : c.code = cX4_canStand) (hml : c.maxLocals = 3) (hts : ∀ w ∈ wsX4_canStand, w.before args s = true) (hown : s.vm.findClass RX4 = some m.cls) (hG : gK dC dI k A s) (hA : ∀ q : Nat, s.heap.size ≤ q → A q) (n_t n_letters : Nat) (v_length : Int32) (r_letters : Nat → Int32) (x1 : Int32) (o_r : Int32) (RET : ∀ (pc : Nat) (H : Heap) (locs : List Loc) (ls : Array Slot) (v : Int32), decode cX4_canStand pc = .ok (.ireturn, 1) → some v = some o_r → narrow .boolean (.int v) = .int v → va_P (dC, dI) vwCl (wd_9977c0 k n_t n_letters v_length r_letters) H → va_D A (wd_9977c0 k n_t n_letters v_length r_letters) → va_S A s.heap H locs → W p l e rm_X4_canStand s m args below meth c H locs 0 0 Q (F0 m pc ls [.int v])) (H : Heap) (locs : List Loc) (ls : Array Slot) (hl : lv_has ls 3 [(0, .ref n_t), (1, .int x1)]) (hP : va_P (dC, dI) vwCl (wd_9977c0 k n_t n_letters v_length r_letters) H) (hD : va_D A (wd_9977c0 k n_t n_letters v_length r_letters)) (hS : va_S A s.heap H locs) (hm : f_X4_canStand x1 v_length r_letters = some o_r) : W p l e rm_X4_canStand s m args below meth c H locs 0 0 Q (F0 m 0 ls []) := by
  have k0 := hts (.initialized RX5) (by decide +kernel)
  have k1 := hts (.static yX5_allows) (by decide +kernel)
  unfold f_X4_canStand at hm
  refine lv_aload_n hx hb dX4_canStand_0 rfl (lv_at hl 0 rfl) ?_
  refine lv_iload_n hx hb dX4_canStand_1 rfl (lv_at hl 1 rfl) ?_
  obtain ⟨r1, e2, hm⟩ := bnd1_some hm
  refine g_calli (w2 := (wd_9977c0 k n_t n_letters v_length r_letters)) (va_runV (As := [.int x1]) (rest := []) ⟨hx, hb, hml, hown, hts⟩ (m_X4_value l dC dI k H.size n_t n_letters v_length r_letters x1 e2) (cwV 1 hts gX4_canStand_X4_value rfl rfl rfl (by decide +kernel) ⟨Nat.le_of_ble_eq_true rfl, Nat.le_of_ble_eq_true rfl⟩) (g_preV hG hP hD hS hA [0, 1] rfl (by decide) (ci := 4) (q0 := 0) rfl rfl) rfl rfl hl.1 rfl (lv_room (Nat.le_of_ble_eq_true rfl)) dX4_canStand_2 ⟨Nat.le_of_ble_eq_true rfl, Nat.le_of_ble_eq_true rfl⟩) hP hD hS hA [0, 1] [] [0, 1] rfl rfl (by decide) (by decide) rfl (by decide) (fun H locs hP hD hS => ?_)
  refine lv_istore_n (lv' := [(2, .int r1), (0, .ref n_t), (1, .int x1)]) hx hb dX4_canStand_5 rfl hl (by decide) rfl (fun ls hl => ?_)
  refine lv_iload_n hx hb dX4_canStand_6 rfl (lv_at hl 2 rfl) ?_
  refine lv_iconst (v := (2 : Int32)) hx hb dX4_canStand_7 (by decide) ?_
  refine lv_icmp_ge (tgt := 50) hx hb dX4_canStand_8 (by decide) (fun c3 => ?_) (fun c3 => ?_)
  · replace hm := ifp c3 hm
    refine lv_iload_n hx hb dX4_canStand_50 rfl (lv_at hl 2 rfl) ?_
    refine lv_iconst (v := (2 : Int32)) hx hb dX4_canStand_51 (by decide) ?_
    refine lv_isub hx hb dX4_canStand_52 ?_
    refine lv_bipush (v := (8 : Int32)) hx hb dX4_canStand_53 (by decide) ?_
    refine g_irem hx hb dX4_canStand_55 (by decide) ?_
    refine lv_topi (fun t4 et4 => ?_)
    replace hm := (nmd_eq et4).trans hm
    by_cases c5 : t4 = (0 : Int32)
    · replace hm := ifp c5 hm
      refine lv_tableIn (off := 44) (tgt := 100) hx hb dX4_canStand_56 (by rw [c5]; decide) (by rw [c5]; decide) (by rw [c5]; rfl) (by decide) ?_
      refine lv_aload_n hx hb dX4_canStand_100 rfl (lv_at hl 1 rfl) ?_
      refine lv_iload_n hx hb dX4_canStand_101 rfl (lv_at hl 2 rfl) ?_
      obtain ⟨r6, e7, hm⟩ := bnd1_some hm
      refine g_calli (w2 := (wd_9977c0 k n_t n_letters v_length r_letters)) (va_runV (As := [.int x1]) (rest := []) ⟨hx, hb, hml, hown, hts⟩ (m_X4_letterAt l dC dI k H.size n_t n_letters v_length r_letters x1 e7) (cwV 1 hts gX4_canStand_X4_letterAt rfl rfl rfl (by decide +kernel) ⟨Nat.le_of_ble_eq_true rfl, Nat.le_of_ble_eq_true rfl⟩) (g_preV hG hP hD hS hA [0, 1] rfl (by decide) (ci := 4) (q0 := 0) rfl rfl) rfl rfl hl.1 rfl (lv_room (Nat.le_of_ble_eq_true rfl)) dX4_canStand_102 ⟨Nat.le_of_ble_eq_true rfl, Nat.le_of_ble_eq_true rfl⟩) hP hD hS hA [0, 1] [] [0, 1] rfl rfl (by decide) (by decide) rfl (by decide) (fun H locs hP hD hS => ?_)
      refine lv_bipush (v := (108 : Int32)) hx hb dX4_canStand_105 (by decide) ?_
      refine lv_icmp_ne (tgt := 129) hx hb dX4_canStand_107 (by decide) (fun c8 => ?_) (fun c8 => ?_)
      · replace hm := ifn c8 hm
        refine lv_iconst (v := (0 : Int32)) hx hb dX4_canStand_129 (by decide) ?_
        exact RET _ _ _ _ _ dX4_canStand_130 hm (by decide +kernel) hP hD hS
      · replace hm := ifp c8 hm
        refine lv_aload_n hx hb dX4_canStand_110 rfl (lv_at hl 1 rfl) ?_
        refine lv_iconst (v := (1 : Int32)) hx hb dX4_canStand_111 (by decide) ?_
        obtain ⟨r9, e10, hm⟩ := bnd1_some hm
        refine g_calli (w2 := (wd_9977c0 k n_t n_letters v_length r_letters)) (va_runV (As := [.int (1 : Int32)]) (rest := []) ⟨hx, hb, hml, hown, hts⟩ (m_X4_value l dC dI k H.size n_t n_letters v_length r_letters (1 : Int32) e10) (cwV 1 hts gX4_canStand_X4_value rfl rfl rfl (by decide +kernel) ⟨Nat.le_of_ble_eq_true rfl, Nat.le_of_ble_eq_true rfl⟩) (g_preV hG hP hD hS hA [0, 1] rfl (by decide) (ci := 4) (q0 := 0) rfl rfl) rfl rfl hl.1 rfl (lv_room (Nat.le_of_ble_eq_true rfl)) dX4_canStand_112 ⟨Nat.le_of_ble_eq_true rfl, Nat.le_of_ble_eq_true rfl⟩) hP hD hS hA [0, 1] [] [0, 1] rfl rfl (by decide) (by decide) rfl (by decide) (fun H locs hP hD hS => ?_)
        refine lv_iconst (v := (1 : Int32)) hx hb dX4_canStand_115 (by decide) ?_
        refine lv_icmp_le (tgt := 129) hx hb dX4_canStand_116 (by decide) (fun c11 => ?_) (fun c11 => ?_)
        · replace hm := ifp c11 hm
          refine lv_iconst (v := (0 : Int32)) hx hb dX4_canStand_129 (by decide) ?_
          exact RET _ _ _ _ _ dX4_canStand_130 hm (by decide +kernel) hP hD hS
        · replace hm := ifn c11 hm
          refine lv_iload_n hx hb dX4_canStand_119 rfl (lv_at hl 2 rfl) ?_
          refine lv_bipush (v := (66 : Int32)) hx hb dX4_canStand_120 (by decide) ?_
          refine lv_icmp_ge (tgt := 129) hx hb dX4_canStand_122 (by decide) (fun c12 => ?_) (fun c12 => ?_)
          · replace hm := ifp c12 hm
            refine lv_iconst (v := (0 : Int32)) hx hb dX4_canStand_129 (by decide) ?_
            exact RET _ _ _ _ _ dX4_canStand_130 hm (by decide +kernel) hP hD hS
          · replace hm := ifn c12 hm
            refine lv_iconst (v := (1 : Int32)) hx hb dX4_canStand_125 (by decide) ?_
            refine lv_goto (tgt := 130) hx hb dX4_canStand_126 (by decide) ?_
            exact RET _ _ _ _ _ dX4_canStand_130 hm (by decide +kernel) hP hD hS
    · replace hm := ifn c5 hm
      by_cases c13 : t4 = (1 : Int32)
      · replace hm := ifp c13 hm
        refine lv_tableIn (off := 75) (tgt := 131) hx hb dX4_canStand_56 (by rw [c13]; decide) (by rw [c13]; decide) (by rw [c13]; rfl) (by decide) ?_
        refine lv_iload_n hx hb dX4_canStand_131 rfl (lv_at hl 0 rfl) ?_
        refine lv_if_lt (tgt := 148) hx hb dX4_canStand_132 (by decide) (fun c14 => ?_) (fun c14 => ?_)
        · replace hm := ifp c14 hm
          refine lv_iconst (v := (0 : Int32)) hx hb dX4_canStand_148 (by decide) ?_
          exact RET _ _ _ _ _ dX4_canStand_149 hm (by decide +kernel) hP hD hS
        · replace hm := ifn c14 hm
          refine lv_iload_n hx hb dX4_canStand_135 rfl (lv_at hl 0 rfl) ?_
          refine lv_aload_n hx hb dX4_canStand_136 rfl (lv_at hl 1 rfl) ?_
          refine lv_iconst (v := (1 : Int32)) hx hb dX4_canStand_137 (by decide) ?_
          obtain ⟨r15, e16, hm⟩ := bnd1_some hm
          refine g_calli (w2 := (wd_9977c0 k n_t n_letters v_length r_letters)) (va_runV (As := [.int (1 : Int32)]) (rest := [.int r1]) ⟨hx, hb, hml, hown, hts⟩ (m_X4_value l dC dI k H.size n_t n_letters v_length r_letters (1 : Int32) e16) (cwV 1 hts gX4_canStand_X4_value rfl rfl rfl (by decide +kernel) ⟨Nat.le_of_ble_eq_true rfl, Nat.le_of_ble_eq_true rfl⟩) (g_preV hG hP hD hS hA [0, 1] rfl (by decide) (ci := 4) (q0 := 0) rfl rfl) rfl rfl hl.1 rfl (lv_room (Nat.le_of_ble_eq_true rfl)) dX4_canStand_138 ⟨Nat.le_of_ble_eq_true rfl, Nat.le_of_ble_eq_true rfl⟩) hP hD hS hA [0, 1] [] [0, 1] rfl rfl (by decide) (by decide) rfl (by decide) (fun H locs hP hD hS => ?_)
          refine lv_icmp_ge (tgt := 148) hx hb dX4_canStand_141 (by decide) (fun c17 => ?_) (fun c17 => ?_)
          · replace hm := ifp c17 hm
            refine lv_iconst (v := (0 : Int32)) hx hb dX4_canStand_148 (by decide) ?_
            exact RET _ _ _ _ _ dX4_canStand_149 hm (by decide +kernel) hP hD hS
          · replace hm := ifn c17 hm
            refine lv_iconst (v := (1 : Int32)) hx hb dX4_canStand_144 (by decide) ?_
            refine lv_goto (tgt := 149) hx hb dX4_canStand_145 (by decide) ?_
            exact RET _ _ _ _ _ dX4_canStand_149 hm (by decide +kernel) hP hD hS
      · replace hm := ifn c13 hm
        by_cases c18 : t4 = (2 : Int32)
        · replace hm := ifp c18 hm
          refine lv_tableIn (off := 94) (tgt := 150) hx hb dX4_canStand_56 (by rw [c18]; decide) (by rw [c18]; decide) (by rw [c18]; rfl) (by decide) ?_
          refine lv_iload_n hx hb dX4_canStand_150 rfl (lv_at hl 0 rfl) ?_
          refine lv_if_lt (tgt := 178) hx hb dX4_canStand_151 (by decide) (fun c19 => ?_) (fun c19 => ?_)
          · replace hm := ifp c19 hm
            refine lv_iconst (v := (0 : Int32)) hx hb dX4_canStand_178 (by decide) ?_
            exact RET _ _ _ _ _ dX4_canStand_179 hm (by decide +kernel) hP hD hS
          · replace hm := ifn c19 hm
            refine lv_iload_n hx hb dX4_canStand_154 rfl (lv_at hl 0 rfl) ?_
            refine lv_aload_n hx hb dX4_canStand_155 rfl (lv_at hl 1 rfl) ?_
            refine lv_iconst (v := (1 : Int32)) hx hb dX4_canStand_156 (by decide) ?_
            obtain ⟨r20, e21, hm⟩ := bnd1_some hm
            refine g_calli (w2 := (wd_9977c0 k n_t n_letters v_length r_letters)) (va_runV (As := [.int (1 : Int32)]) (rest := [.int r1]) ⟨hx, hb, hml, hown, hts⟩ (m_X4_value l dC dI k H.size n_t n_letters v_length r_letters (1 : Int32) e21) (cwV 1 hts gX4_canStand_X4_value rfl rfl rfl (by decide +kernel) ⟨Nat.le_of_ble_eq_true rfl, Nat.le_of_ble_eq_true rfl⟩) (g_preV hG hP hD hS hA [0, 1] rfl (by decide) (ci := 4) (q0 := 0) rfl rfl) rfl rfl hl.1 rfl (lv_room (Nat.le_of_ble_eq_true rfl)) dX4_canStand_157 ⟨Nat.le_of_ble_eq_true rfl, Nat.le_of_ble_eq_true rfl⟩) hP hD hS hA [0, 1] [] [0, 1] rfl rfl (by decide) (by decide) rfl (by decide) (fun H locs hP hD hS => ?_)
            refine lv_icmp_ge (tgt := 178) hx hb dX4_canStand_160 (by decide) (fun c22 => ?_) (fun c22 => ?_)
            · replace hm := ifp c22 hm
              refine lv_iconst (v := (0 : Int32)) hx hb dX4_canStand_178 (by decide) ?_
              exact RET _ _ _ _ _ dX4_canStand_179 hm (by decide +kernel) hP hD hS
            · replace hm := ifn c22 hm
              refine lv_iload_n hx hb dX4_canStand_163 rfl (lv_at hl 0 rfl) ?_
              refine lv_aload_n hx hb dX4_canStand_164 rfl (lv_at hl 1 rfl) ?_
              refine lv_iload_n hx hb dX4_canStand_165 rfl (lv_at hl 2 rfl) ?_
              refine lv_iconst (v := (1 : Int32)) hx hb dX4_canStand_166 (by decide) ?_
              refine lv_isub hx hb dX4_canStand_167 ?_
              obtain ⟨r23, e24, hm⟩ := bnd1_some hm
              refine g_calli (w2 := (wd_9977c0 k n_t n_letters v_length r_letters)) (va_runV (As := [.int (x1 - (1 : Int32))]) (rest := [.int r1]) ⟨hx, hb, hml, hown, hts⟩ (m_X4_value l dC dI k H.size n_t n_letters v_length r_letters (x1 - (1 : Int32)) e24) (cwV 1 hts gX4_canStand_X4_value rfl rfl rfl (by decide +kernel) ⟨Nat.le_of_ble_eq_true rfl, Nat.le_of_ble_eq_true rfl⟩) (g_preV hG hP hD hS hA [0, 1] rfl (by decide) (ci := 4) (q0 := 0) rfl rfl) rfl rfl hl.1 rfl (lv_room (Nat.le_of_ble_eq_true rfl)) dX4_canStand_168 ⟨Nat.le_of_ble_eq_true rfl, Nat.le_of_ble_eq_true rfl⟩) hP hD hS hA [0, 1] [] [0, 1] rfl rfl (by decide) (by decide) rfl (by decide) (fun H locs hP hD hS => ?_)
              refine lv_icmp_eq (tgt := 178) hx hb dX4_canStand_171 (by decide) (fun c25 => ?_) (fun c25 => ?_)
              · replace hm := ifp c25 hm
                refine lv_iconst (v := (0 : Int32)) hx hb dX4_canStand_178 (by decide) ?_
                exact RET _ _ _ _ _ dX4_canStand_179 hm (by decide +kernel) hP hD hS
              · replace hm := ifn c25 hm
                refine lv_iconst (v := (1 : Int32)) hx hb dX4_canStand_174 (by decide) ?_
                refine lv_goto (tgt := 179) hx hb dX4_canStand_175 (by decide) ?_
                exact RET _ _ _ _ _ dX4_canStand_179 hm (by decide +kernel) hP hD hS
        · replace hm := ifn c18 hm
          by_cases c26 : t4 = (3 : Int32)
          · replace hm := ifp c26 hm
            refine lv_tableIn (off := 124) (tgt := 180) hx hb dX4_canStand_56 (by rw [c26]; decide) (by rw [c26]; decide) (by rw [c26]; rfl) (by decide) ?_
            refine lv_iload_n hx hb dX4_canStand_180 rfl (lv_at hl 0 rfl) ?_
            refine lv_if_lt (tgt := 194) hx hb dX4_canStand_181 (by decide) (fun c27 => ?_) (fun c27 => ?_)
            · replace hm := ifp c27 hm
              refine lv_iconst (v := (0 : Int32)) hx hb dX4_canStand_194 (by decide) ?_
              exact RET _ _ _ _ _ dX4_canStand_195 hm (by decide +kernel) hP hD hS
            · replace hm := ifn c27 hm
              refine lv_iload_n hx hb dX4_canStand_184 rfl (lv_at hl 0 rfl) ?_
              refine lv_bipush (v := (9 : Int32)) hx hb dX4_canStand_185 (by decide) ?_
              refine lv_icmp_gt (tgt := 194) hx hb dX4_canStand_187 (by decide) (fun c28 => ?_) (fun c28 => ?_)
              · replace hm := ifp c28 hm
                refine lv_iconst (v := (0 : Int32)) hx hb dX4_canStand_194 (by decide) ?_
                exact RET _ _ _ _ _ dX4_canStand_195 hm (by decide +kernel) hP hD hS
              · replace hm := ifn c28 hm
                refine lv_iconst (v := (1 : Int32)) hx hb dX4_canStand_190 (by decide) ?_
                refine lv_goto (tgt := 195) hx hb dX4_canStand_191 (by decide) ?_
                exact RET _ _ _ _ _ dX4_canStand_195 hm (by decide +kernel) hP hD hS
          · replace hm := ifn c26 hm
            by_cases c29 : t4 = (4 : Int32)
            · replace hm := ifp c29 hm
              refine lv_tableIn (off := 140) (tgt := 196) hx hb dX4_canStand_56 (by rw [c29]; decide) (by rw [c29]; decide) (by rw [c29]; rfl) (by decide) ?_
              refine lv_iload_n hx hb dX4_canStand_196 rfl (lv_at hl 0 rfl) ?_
              refine lv_if_lt (tgt := 229) hx hb dX4_canStand_197 (by decide) (fun c30 => ?_) (fun c30 => ?_)
              · replace hm := ifp c30 hm
                refine lv_iconst (v := (0 : Int32)) hx hb dX4_canStand_229 (by decide) ?_
                exact RET _ _ _ _ _ dX4_canStand_230 hm (by decide +kernel) hP hD hS
              · replace hm := ifn c30 hm
                refine lv_iload_n hx hb dX4_canStand_200 rfl (lv_at hl 0 rfl) ?_
                refine lv_bipush (v := (9 : Int32)) hx hb dX4_canStand_201 (by decide) ?_
                refine lv_icmp_gt (tgt := 229) hx hb dX4_canStand_203 (by decide) (fun c31 => ?_) (fun c31 => ?_)
                · replace hm := ifp c31 hm
                  refine lv_iconst (v := (0 : Int32)) hx hb dX4_canStand_229 (by decide) ?_
                  exact RET _ _ _ _ _ dX4_canStand_230 hm (by decide +kernel) hP hD hS
                · replace hm := ifn c31 hm
                  refine lv_iconst (v := (0 : Int32)) hx hb dX4_canStand_206 (by decide) ?_
                  refine lv_bipush (v := (10 : Int32)) hx hb dX4_canStand_207 (by decide) ?_
                  refine lv_aload_n hx hb dX4_canStand_209 rfl (lv_at hl 1 rfl) ?_
                  refine lv_iload_n hx hb dX4_canStand_210 rfl (lv_at hl 2 rfl) ?_
                  refine lv_iconst (v := (1 : Int32)) hx hb dX4_canStand_211 (by decide) ?_
                  refine lv_isub hx hb dX4_canStand_212 ?_
                  obtain ⟨r32, e33, hm⟩ := bnd1_some hm
                  refine g_calli (w2 := (wd_9977c0 k n_t n_letters v_length r_letters)) (va_runV (As := [.int (x1 - (1 : Int32))]) (rest := [.int (10 : Int32), .int (0 : Int32)]) ⟨hx, hb, hml, hown, hts⟩ (m_X4_value l dC dI k H.size n_t n_letters v_length r_letters (x1 - (1 : Int32)) e33) (cwV 1 hts gX4_canStand_X4_value rfl rfl rfl (by decide +kernel) ⟨Nat.le_of_ble_eq_true rfl, Nat.le_of_ble_eq_true rfl⟩) (g_preV hG hP hD hS hA [0, 1] rfl (by decide) (ci := 4) (q0 := 0) rfl rfl) rfl rfl hl.1 rfl (lv_room (Nat.le_of_ble_eq_true rfl)) dX4_canStand_213 ⟨Nat.le_of_ble_eq_true rfl, Nat.le_of_ble_eq_true rfl⟩) hP hD hS hA [0, 1] [] [0, 1] rfl rfl (by decide) (by decide) rfl (by decide) (fun H locs hP hD hS => ?_)
                  refine lv_imul hx hb dX4_canStand_216 ?_
                  refine lv_iload_n hx hb dX4_canStand_217 rfl (lv_at hl 0 rfl) ?_
                  refine lv_iadd hx hb dX4_canStand_218 ?_
                  obtain ⟨r34, e35, hm⟩ := bnd1_some hm
                  refine g_calli (w2 := (wd_9977c0 k n_t n_letters v_length r_letters)) (va_runSN (As := [.int (0 : Int32), .int (((10 : Int32) * r32) + r1)]) (rest := []) ⟨hx, hb, hml, hown, hts⟩ (m_X5_allows l dC dI k H.size  (0 : Int32) (((10 : Int32) * r32) + r1) e35) ⟨va_cnB 2 hts gX4_canStand_X5_allows_n43 rfl rfl rfl hG.2.1.2.2.2.2.2.1 k0 (by decide +kernel) ⟨Nat.le_of_ble_eq_true rfl, Nat.le_of_ble_eq_true rfl⟩, k1, trivial⟩ (g_preS hG hP hD hS hA [] rfl (by decide)) rfl rfl hl.1 rfl (lv_room (Nat.le_of_ble_eq_true rfl)) dX4_canStand_219 ⟨Nat.le_of_ble_eq_true rfl, Nat.le_of_ble_eq_true rfl⟩) hP hD hS hA [] [0, 1] [0, 1] rfl rfl (by decide) (by decide) rfl (by decide) (fun H locs hP hD hS => ?_)
                  refine lv_if_eq (tgt := 229) hx hb dX4_canStand_222 (by decide) (fun c36 => ?_) (fun c36 => ?_)
                  · replace hm := ifp c36 hm
                    refine lv_iconst (v := (0 : Int32)) hx hb dX4_canStand_229 (by decide) ?_
                    exact RET _ _ _ _ _ dX4_canStand_230 hm (by decide +kernel) hP hD hS
                  · replace hm := ifn c36 hm
                    refine lv_iconst (v := (1 : Int32)) hx hb dX4_canStand_225 (by decide) ?_
                    refine lv_goto (tgt := 230) hx hb dX4_canStand_226 (by decide) ?_
                    exact RET _ _ _ _ _ dX4_canStand_230 hm (by decide +kernel) hP hD hS
            · replace hm := ifn c29 hm
              by_cases c37 : t4 = (5 : Int32)
              · replace hm := ifp c37 hm
                refine lv_tableIn (off := 175) (tgt := 231) hx hb dX4_canStand_56 (by rw [c37]; decide) (by rw [c37]; decide) (by rw [c37]; rfl) (by decide) ?_
                refine lv_iconst (v := (1 : Int32)) hx hb dX4_canStand_231 (by decide) ?_
                refine lv_iload_n hx hb dX4_canStand_232 rfl (lv_at hl 0 rfl) ?_
                obtain ⟨r38, e39, hm⟩ := bnd1_some hm
                refine g_calli (w2 := (wd_9977c0 k n_t n_letters v_length r_letters)) (va_runSN (As := [.int (1 : Int32), .int r1]) (rest := []) ⟨hx, hb, hml, hown, hts⟩ (m_X5_allows l dC dI k H.size  (1 : Int32) r1 e39) ⟨va_cnB 2 hts gX4_canStand_X5_allows_n43 rfl rfl rfl hG.2.1.2.2.2.2.2.1 k0 (by decide +kernel) ⟨Nat.le_of_ble_eq_true rfl, Nat.le_of_ble_eq_true rfl⟩, k1, trivial⟩ (g_preS hG hP hD hS hA [] rfl (by decide)) rfl rfl hl.1 rfl (lv_room (Nat.le_of_ble_eq_true rfl)) dX4_canStand_233 ⟨Nat.le_of_ble_eq_true rfl, Nat.le_of_ble_eq_true rfl⟩) hP hD hS hA [] [0, 1] [0, 1] rfl rfl (by decide) (by decide) rfl (by decide) (fun H locs hP hD hS => ?_)
                obtain ⟨hz40, hm⟩ := chkZ_some hm
                exact RET _ _ _ _ _ dX4_canStand_236 hm hz40 hP hD hS
              · replace hm := ifn c37 hm
                by_cases c41 : t4 = (6 : Int32)
                · replace hm := ifp c41 hm
                  refine lv_tableIn (off := 181) (tgt := 237) hx hb dX4_canStand_56 (by rw [c41]; decide) (by rw [c41]; decide) (by rw [c41]; rfl) (by decide) ?_
                  refine lv_iconst (v := (2 : Int32)) hx hb dX4_canStand_237 (by decide) ?_
                  refine lv_iload_n hx hb dX4_canStand_238 rfl (lv_at hl 0 rfl) ?_
                  obtain ⟨r42, e43, hm⟩ := bnd1_some hm
                  refine g_calli (w2 := (wd_9977c0 k n_t n_letters v_length r_letters)) (va_runSN (As := [.int (2 : Int32), .int r1]) (rest := []) ⟨hx, hb, hml, hown, hts⟩ (m_X5_allows l dC dI k H.size  (2 : Int32) r1 e43) ⟨va_cnB 2 hts gX4_canStand_X5_allows_n43 rfl rfl rfl hG.2.1.2.2.2.2.2.1 k0 (by decide +kernel) ⟨Nat.le_of_ble_eq_true rfl, Nat.le_of_ble_eq_true rfl⟩, k1, trivial⟩ (g_preS hG hP hD hS hA [] rfl (by decide)) rfl rfl hl.1 rfl (lv_room (Nat.le_of_ble_eq_true rfl)) dX4_canStand_239 ⟨Nat.le_of_ble_eq_true rfl, Nat.le_of_ble_eq_true rfl⟩) hP hD hS hA [] [0, 1] [0, 1] rfl rfl (by decide) (by decide) rfl (by decide) (fun H locs hP hD hS => ?_)
                  obtain ⟨hz44, hm⟩ := chkZ_some hm
                  exact RET _ _ _ _ _ dX4_canStand_242 hm hz44 hP hD hS
                · replace hm := ifn c41 hm
                  refine lv_tableOut (tgt := 243) hx hb dX4_canStand_56 (by have qc5 := i32_ne c5 (z := 0) (by decide); have qc13 := i32_ne c13 (z := 1) (by decide); have qc18 := i32_ne c18 (z := 2) (by decide); have qc26 := i32_ne c26 (z := 3) (by decide); have qc29 := i32_ne c29 (z := 4) (by decide); have qc37 := i32_ne c37 (z := 5) (by decide); have qc41 := i32_ne c41 (z := 6) (by decide); omega) (by decide) ?_
                  refine lv_iconst (v := (3 : Int32)) hx hb dX4_canStand_243 (by decide) ?_
                  refine lv_iload_n hx hb dX4_canStand_244 rfl (lv_at hl 0 rfl) ?_
                  obtain ⟨r45, e46, hm⟩ := bnd1_some hm
                  refine g_calli (w2 := (wd_9977c0 k n_t n_letters v_length r_letters)) (va_runSN (As := [.int (3 : Int32), .int r1]) (rest := []) ⟨hx, hb, hml, hown, hts⟩ (m_X5_allows l dC dI k H.size  (3 : Int32) r1 e46) ⟨va_cnB 2 hts gX4_canStand_X5_allows_n43 rfl rfl rfl hG.2.1.2.2.2.2.2.1 k0 (by decide +kernel) ⟨Nat.le_of_ble_eq_true rfl, Nat.le_of_ble_eq_true rfl⟩, k1, trivial⟩ (g_preS hG hP hD hS hA [] rfl (by decide)) rfl rfl hl.1 rfl (lv_room (Nat.le_of_ble_eq_true rfl)) dX4_canStand_245 ⟨Nat.le_of_ble_eq_true rfl, Nat.le_of_ble_eq_true rfl⟩) hP hD hS hA [] [0, 1] [0, 1] rfl rfl (by decide) (by decide) rfl (by decide) (fun H locs hP hD hS => ?_)
                  obtain ⟨hz47, hm⟩ := chkZ_some hm
                  exact RET _ _ _ _ _ dX4_canStand_248 hm hz47 hP hD hS
  · replace hm := ifn c3 hm
    refine lv_iload_n hx hb dX4_canStand_11 rfl (lv_at hl 2 rfl) ?_
    refine lv_if_ne (tgt := 33) hx hb dX4_canStand_12 (by decide) (fun c48 => ?_) (fun c48 => ?_)
    · replace hm := ifn c48 hm
      refine lv_iload_n hx hb dX4_canStand_33 rfl (lv_at hl 0 rfl) ?_
      refine lv_iconst (v := (1 : Int32)) hx hb dX4_canStand_34 (by decide) ?_
      refine lv_icmp_lt (tgt := 48) hx hb dX4_canStand_35 (by decide) (fun c49 => ?_) (fun c49 => ?_)
      · replace hm := ifp c49 hm
        refine lv_iconst (v := (0 : Int32)) hx hb dX4_canStand_48 (by decide) ?_
        exact RET _ _ _ _ _ dX4_canStand_49 hm (by decide +kernel) hP hD hS
      · replace hm := ifn c49 hm
        refine lv_iload_n hx hb dX4_canStand_38 rfl (lv_at hl 0 rfl) ?_
        refine lv_bipush (v := (6 : Int32)) hx hb dX4_canStand_39 (by decide) ?_
        refine lv_icmp_gt (tgt := 48) hx hb dX4_canStand_41 (by decide) (fun c50 => ?_) (fun c50 => ?_)
        · replace hm := ifp c50 hm
          refine lv_iconst (v := (0 : Int32)) hx hb dX4_canStand_48 (by decide) ?_
          exact RET _ _ _ _ _ dX4_canStand_49 hm (by decide +kernel) hP hD hS
        · replace hm := ifn c50 hm
          refine lv_iconst (v := (1 : Int32)) hx hb dX4_canStand_44 (by decide) ?_
          refine lv_goto (tgt := 49) hx hb dX4_canStand_45 (by decide) ?_
          exact RET _ _ _ _ _ dX4_canStand_49 hm (by decide +kernel) hP hD hS
    · replace hm := ifp c48 hm
      refine lv_aload_n hx hb dX4_canStand_15 rfl (lv_at hl 1 rfl) ?_
      refine lv_iconst (v := (0 : Int32)) hx hb dX4_canStand_16 (by decide) ?_
      obtain ⟨r51, e52, hm⟩ := bnd1_some hm
      refine g_calli (w2 := (wd_9977c0 k n_t n_letters v_length r_letters)) (va_runV (As := [.int (0 : Int32)]) (rest := []) ⟨hx, hb, hml, hown, hts⟩ (m_X4_letterAt l dC dI k H.size n_t n_letters v_length r_letters (0 : Int32) e52) (cwV 1 hts gX4_canStand_X4_letterAt rfl rfl rfl (by decide +kernel) ⟨Nat.le_of_ble_eq_true rfl, Nat.le_of_ble_eq_true rfl⟩) (g_preV hG hP hD hS hA [0, 1] rfl (by decide) (ci := 4) (q0 := 0) rfl rfl) rfl rfl hl.1 rfl (lv_room (Nat.le_of_ble_eq_true rfl)) dX4_canStand_17 ⟨Nat.le_of_ble_eq_true rfl, Nat.le_of_ble_eq_true rfl⟩) hP hD hS hA [0, 1] [] [0, 1] rfl rfl (by decide) (by decide) rfl (by decide) (fun H locs hP hD hS => ?_)
      refine lv_bipush (v := (67 : Int32)) hx hb dX4_canStand_20 (by decide) ?_
      refine lv_icmp_ne (tgt := 29) hx hb dX4_canStand_22 (by decide) (fun c53 => ?_) (fun c53 => ?_)
      · replace hm := ifn c53 hm
        refine lv_iconst (v := (0 : Int32)) hx hb dX4_canStand_29 (by decide) ?_
        refine lv_goto (tgt := 49) hx hb dX4_canStand_30 (by decide) ?_
        exact RET _ _ _ _ _ dX4_canStand_49 hm (by decide +kernel) hP hD hS
      · replace hm := ifp c53 hm
        refine lv_iconst (v := (1 : Int32)) hx hb dX4_canStand_25 (by decide) ?_
        refine lv_goto (tgt := 49) hx hb dX4_canStand_26 (by decide) ?_
        exact RET _ _ _ _ _ dX4_canStand_49 hm (by decide +kernel) hP hD hS
set_option maxRecDepth 100000 in
theorem m_X4_canStand (l : Launch) (dC : Nat → ClassId) (dI : Nat → Nat → Nat) (k : Nat → ClassId) (sz : Nat) (n_t n_letters : Nat) (v_length : Int32) (r_letters : Nat → Int32) (x1 : Int32) {o_r : Int32} (hm : f_X4_canStand x1 v_length r_letters = some o_r) : Met l yX4_canStand wsX4_canStand rm_X4_canStand (gPre dC dI k [.ref n_t, .int x1] sz (wd_9977c0 k n_t n_letters v_length r_letters)) (gQI dC dI (va_A (wd_9977c0 k n_t n_letters v_length r_letters) sz) o_r (wd_9977c0 k n_t n_letters v_length r_letters)) 0 0 (va_A (wd_9977c0 k n_t n_letters v_length r_letters) sz) := by
  refine g_entry (cc := cX4_canStand) (maxL := 3) (ret := (some .boolean)) (lv := [(0, .ref n_t), (1, .int x1)]) (by decide +kernel) rfl (Nat.le_of_ble_eq_true rfl) rfl (fun p e s m below meth c ls hx hb hr hml hts hown hlk hnm hsz hG hA hP hD hS hl => ?_)
  exact k_X4_canStand hx hb hml hts hown hG hA n_t n_letters v_length r_letters x1 o_r (fun pc H locs ls v hd ho hz hP hD hS => by cases ho; exact g_iretz hx hb hr hlk hP hD hS hz hd) s.heap [] ls hl hP hD hS hm
end
section
set_option maxHeartbeats 4000000 in
set_option maxRecDepth 100000 in
theorem k_X4_errorAt {p : Program} {l : Launch} {e : Env} {s : State} {m : MethodId} {args : Array Value} {below : List Frame} {meth : Method} {c : Code} {A : Nat → Prop} {Q : State → Prop} {dC : Nat → ClassId} {dI : Nat → Nat → Nat} {k : Nat → ClassId} (hx : p.tables.exec = Jvm.exec) (hb : c.code = cX4_errorAt) (hml : c.maxLocals = 2) (hts : ∀ w ∈ wsX4_errorAt, w.before args s = true) (hown : s.vm.findClass RX4 = some m.cls) (hG : gK dC dI k A s) (hA : ∀ q : Nat, s.heap.size ≤ q → A q) (F : Nat) (n_t n_letters : Nat) (v_length : Int32) (r_letters : Nat → Int32) (o_r : Int32) (RET : ∀ (pc : Nat) (H : Heap) (locs : List Loc) (ls : Array Slot) (v : Int32), decode cX4_errorAt pc = .ok (.ireturn, 1) → some v = some o_r → va_P (dC, dI) vwCl (wd_9977c0 k n_t n_letters v_length r_letters) H → va_D A (wd_9977c0 k n_t n_letters v_length r_letters) → va_S A s.heap H locs → W p l e rm_X4_errorAt s m args below meth c H locs 0 0 Q (F0 m pc ls [.int v])) (H : Heap) (locs : List Loc) (ls : Array Slot) (hl : lv_has ls 2 [(0, .ref n_t)]) (hP : va_P (dC, dI) vwCl (wd_9977c0 k n_t n_letters v_length r_letters) H) (hD : va_D A (wd_9977c0 k n_t n_letters v_length r_letters)) (hS : va_S A s.heap H locs) (hm : f_X4_errorAt F v_length r_letters = some o_r) : W p l e rm_X4_errorAt s m args below meth c H locs 0 0 Q (F0 m 0 ls []) := by
  have hinX4 : ∀ w ∈ u_ws RX4 TX4 2, w ∈ wsX4_errorAt := by decide +kernel
  have k0 := hts (.fieldLink RX4 15 "CaveLegs$Text" "length" "I") (by decide +kernel)
  have J_51 : ∀ (H : Heap) (locs : List Loc) (ls : Array Slot), lv_has ls 2 [(0, .ref n_t)] → va_P (dC, dI) vwCl (wd_9977c0 k n_t n_letters v_length r_letters) H → va_D A (wd_9977c0 k n_t n_letters v_length r_letters) → va_S A s.heap H locs → f_X4_errorAt_J51 F v_length r_letters  = some o_r → W p l e rm_X4_errorAt s m args below meth c H locs 0 0 Q (F0 m 51 ls []) := by
    intro  H locs ls hl hP hD hS hm
    unfold f_X4_errorAt_J51 at hm
    refine lv_aload_n hx hb dX4_errorAt_51 rfl (lv_at hl 0 rfl) ?_
    refine va_get (D := (dC, dI)) (ci := 4) (v := .int v_length) (C := RX4) (T := TX4) (N := 2) hx hb hts hinX4 hown hG.1 hP 0 rfl rfl 1 (by decide) k0 (fun _ h9 => h9) rfl dX4_errorAt_52 ?_
    exact RET _ _ _ _ _ dX4_errorAt_55 hm hP hD hS
  have L_2 : ∀ (n2 : Nat) (x1 : Int32) (H : Heap) (locs : List Loc) (ls : Array Slot), lv_has ls 2 [(0, .ref n_t), (1, .int x1)] → va_P (dC, dI) vwCl (wd_9977c0 k n_t n_letters v_length r_letters) H → va_D A (wd_9977c0 k n_t n_letters v_length r_letters) → va_S A s.heap H locs → f_X4_errorAt_L2 F v_length r_letters n2 x1 = some o_r → W p l e rm_X4_errorAt s m args below meth c H locs 0 0 Q (F0 m 2 ls []) := by
    intro n2
    induction n2 with
    | zero =>
      intro x1 H locs ls hl hP hD hS hm
      exact non_some hm
    | succ n2 ih2 =>
      intro x1 H locs ls hl hP hD hS hm
      replace hm : f_X4_errorAt_B2 F v_length r_letters (f_X4_errorAt_L2 F v_length r_letters n2) x1 = some o_r := hm
      unfold f_X4_errorAt_B2 at hm
      refine lv_iload_n hx hb dX4_errorAt_2 rfl (lv_at hl 1 rfl) ?_
      refine lv_aload_n hx hb dX4_errorAt_3 rfl (lv_at hl 0 rfl) ?_
      refine va_get (D := (dC, dI)) (ci := 4) (v := .int v_length) (C := RX4) (T := TX4) (N := 2) hx hb hts hinX4 hown hG.1 hP 0 rfl rfl 1 (by decide) k0 (fun _ h9 => h9) rfl dX4_errorAt_4 ?_
      refine lv_icmp_ge (tgt := 26) hx hb dX4_errorAt_7 (by decide) (fun c1 => ?_) (fun c1 => ?_)
      · replace hm := ifp c1 hm
        refine lv_aload_n hx hb dX4_errorAt_26 rfl (lv_at hl 0 rfl) ?_
        refine va_get (D := (dC, dI)) (ci := 4) (v := .int v_length) (C := RX4) (T := TX4) (N := 2) hx hb hts hinX4 hown hG.1 hP 0 rfl rfl 1 (by decide) k0 (fun _ h9 => h9) rfl dX4_errorAt_27 ?_
        refine lv_iconst (v := (2 : Int32)) hx hb dX4_errorAt_30 (by decide) ?_
        refine lv_icmp_lt (tgt := 51) hx hb dX4_errorAt_31 (by decide) (fun c2 => ?_) (fun c2 => ?_)
        · replace hm := ifp c2 hm
          exact J_51 _ _ _ (lv_sub hl [0] rfl) hP hD hS hm
        · replace hm := ifn c2 hm
          refine lv_aload_n hx hb dX4_errorAt_34 rfl (lv_at hl 0 rfl) ?_
          refine va_get (D := (dC, dI)) (ci := 4) (v := .int v_length) (C := RX4) (T := TX4) (N := 2) hx hb hts hinX4 hown hG.1 hP 0 rfl rfl 1 (by decide) k0 (fun _ h9 => h9) rfl dX4_errorAt_35 ?_
          refine lv_iconst (v := (2 : Int32)) hx hb dX4_errorAt_38 (by decide) ?_
          refine lv_isub hx hb dX4_errorAt_39 ?_
          refine lv_bipush (v := (8 : Int32)) hx hb dX4_errorAt_40 (by decide) ?_
          refine g_irem hx hb dX4_errorAt_42 (by decide) ?_
          refine lv_if_ne (tgt := 51) hx hb dX4_errorAt_43 (by decide) (fun c3 => ?_) (fun c3 => ?_)
          · replace hm := ifn c3 hm
            exact J_51 _ _ _ (lv_sub hl [0] rfl) hP hD hS hm
          · replace hm := ifp c3 hm
            refine lv_bipush (v := (-9 : Int32)) hx hb dX4_errorAt_46 (by decide) ?_
            refine lv_goto (tgt := 55) hx hb dX4_errorAt_48 (by decide) ?_
            exact RET _ _ _ _ _ dX4_errorAt_55 hm hP hD hS
      · replace hm := ifn c1 hm
        refine lv_aload_n hx hb dX4_errorAt_10 rfl (lv_at hl 0 rfl) ?_
        refine lv_iload_n hx hb dX4_errorAt_11 rfl (lv_at hl 1 rfl) ?_
        obtain ⟨r4, e5, hm⟩ := bnd1_some hm
        refine g_calli (w2 := (wd_9977c0 k n_t n_letters v_length r_letters)) (va_runV (As := [.int x1]) (rest := []) ⟨hx, hb, hml, hown, hts⟩ (m_X4_canStand l dC dI k H.size n_t n_letters v_length r_letters x1 e5) (cwV 1 hts gX4_errorAt_X4_canStand rfl rfl rfl (by decide +kernel) ⟨Nat.le_of_ble_eq_true rfl, Nat.le_of_ble_eq_true rfl⟩) (g_preV hG hP hD hS hA [0, 1] rfl (by decide) (ci := 4) (q0 := 0) rfl rfl) rfl rfl hl.1 rfl (lv_room (Nat.le_of_ble_eq_true rfl)) dX4_errorAt_12 ⟨Nat.le_of_ble_eq_true rfl, Nat.le_of_ble_eq_true rfl⟩) hP hD hS hA [0, 1] [] [0, 1] rfl rfl (by decide) (by decide) rfl (by decide) (fun H locs hP hD hS => ?_)
        refine lv_if_ne (tgt := 20) hx hb dX4_errorAt_15 (by decide) (fun c6 => ?_) (fun c6 => ?_)
        · replace hm := ifn c6 hm
          obtain ⟨t7, et7⟩ : ∃ y : Int32, y = x1 + (1 : Int32) := ⟨_, rfl⟩
          replace hm := (nmd_eq et7).trans hm
          refine lv_iinc (v := t7) (lv' := [(1, .int t7), (0, .ref n_t)]) hx hb dX4_errorAt_20 hl (k := 1) rfl (by rw [et7]; rfl) (by decide) rfl (fun ls hl => ?_)
          refine lv_goto (tgt := 2) hx hb dX4_errorAt_23 (by decide) ?_
          exact ih2 _ _ _ _ (lv_sub hl [1, 0] rfl) hP hD hS hm
        · replace hm := ifp c6 hm
          refine lv_iload_n hx hb dX4_errorAt_18 rfl (lv_at hl 1 rfl) ?_
          exact RET _ _ _ _ _ dX4_errorAt_19 hm hP hD hS
  unfold f_X4_errorAt at hm
  refine lv_iconst (v := (0 : Int32)) hx hb dX4_errorAt_0 (by decide) ?_
  refine lv_istore_n (lv' := [(1, .int (0 : Int32)), (0, .ref n_t)]) hx hb dX4_errorAt_1 rfl hl (by decide) rfl (fun ls hl => ?_)
  exact L_2 F _ _ _ _ (lv_sub hl [1, 0] rfl) hP hD hS hm
set_option maxRecDepth 100000 in
theorem m_X4_errorAt (l : Launch) (dC : Nat → ClassId) (dI : Nat → Nat → Nat) (k : Nat → ClassId) (F : Nat) (sz : Nat) (n_t n_letters : Nat) (v_length : Int32) (r_letters : Nat → Int32) {o_r : Int32} (hm : f_X4_errorAt F v_length r_letters = some o_r) : Met l yX4_errorAt wsX4_errorAt rm_X4_errorAt (gPre dC dI k [.ref n_t] sz (wd_9977c0 k n_t n_letters v_length r_letters)) (gQI dC dI (va_A (wd_9977c0 k n_t n_letters v_length r_letters) sz) o_r (wd_9977c0 k n_t n_letters v_length r_letters)) 0 0 (va_A (wd_9977c0 k n_t n_letters v_length r_letters) sz) := by
  refine g_entry (cc := cX4_errorAt) (maxL := 2) (ret := (some .int)) (lv := [(0, .ref n_t)]) (by decide +kernel) rfl (Nat.le_of_ble_eq_true rfl) rfl (fun p e s m below meth c ls hx hb hr hml hts hown hlk hnm hsz hG hA hP hD hS hl => ?_)
  exact k_X4_errorAt hx hb hml hts hown hG hA F n_t n_letters v_length r_letters o_r (fun pc H locs ls v hd ho hP hD hS => by cases ho; exact g_ireti hx hb hr hlk hP hD hS hd) s.heap [] ls hl hP hD hS hm
end
section
set_option maxHeartbeats 4000000 in
set_option maxRecDepth 100000 in
theorem k_X4_describe {p : Program} {l : Launch} {e : Env} {s : State} {m : MethodId} {args : Array Value} {below : List Frame} {meth : Method} {c : Code} {A : Nat → Prop} {Q : State → Prop} {dC : Nat → ClassId} {dI : Nat → Nat → Nat} {k : Nat → ClassId} (hx : p.tables.exec = Jvm.exec) (hb : c.code = cX4_describe) (hml : c.maxLocals = 4) (hts : ∀ w ∈ wsX4_describe, w.before args s = true) (hown : s.vm.findClass RX4 = some m.cls) (hG : gK dC dI k A s) (hA : ∀ q : Nat, s.heap.size ≤ q → A q) (F : Nat) (n_t n_p1 n_letters n_p1_rows : Nat) (v_length : Int32) (v_p1_size : Int32) (v_p1_stations : Int32) (r_letters : Nat → Int32) (r_p1_rows : Nat → Int32) (o_v_p1_size : (Int32)) (o_v_p1_stations : (Int32)) (o_r_p1_rows : (Nat → Int32)) (RET : ∀ (pc : Nat) (H : Heap) (locs : List Loc) (ls : Array Slot) (q_v_p1_size : Int32) (q_v_p1_stations : Int32) (q_r_p1_rows : Nat → Int32), decode cX4_describe pc = .ok (.return_, 1) → some (q_v_p1_size, q_v_p1_stations, q_r_p1_rows) = some (o_v_p1_size, o_v_p1_stations, o_r_p1_rows) → va_P (dC, dI) vwCl (wd_e8c1e8 k n_t n_p1 n_letters n_p1_rows v_length q_v_p1_size q_v_p1_stations r_letters q_r_p1_rows) H → va_D A (wd_e8c1e8 k n_t n_p1 n_letters n_p1_rows v_length q_v_p1_size q_v_p1_stations r_letters q_r_p1_rows) → va_S A s.heap H locs → W p l e rm_X4_describe s m args below meth c H locs 0 0 Q (F0 m pc ls [])) (H : Heap) (locs : List Loc) (ls : Array Slot) (hl : lv_has ls 4 [(0, .ref n_t), (1, .ref n_p1)]) (hP : va_P (dC, dI) vwCl (wd_e8c1e8 k n_t n_p1 n_letters n_p1_rows v_length v_p1_size v_p1_stations r_letters r_p1_rows) H) (hD : va_D A (wd_e8c1e8 k n_t n_p1 n_letters n_p1_rows v_length v_p1_size v_p1_stations r_letters r_p1_rows)) (hS : va_S A s.heap H locs) (hm : f_X4_describe F v_length r_letters v_p1_size v_p1_stations r_p1_rows = some (o_v_p1_size, o_v_p1_stations, o_r_p1_rows)) : W p l e rm_X4_describe s m args below meth c H locs 0 0 Q (F0 m 0 ls []) := by
  have hinX0 : ∀ w ∈ u_ws RX0 TX0 3, w ∈ wsX4_describe := by decide +kernel
  have hinX4 : ∀ w ∈ u_ws RX4 TX4 2, w ∈ wsX4_describe := by decide +kernel
  have k0 := hts (.fieldLink RX4 15 "CaveLegs$Text" "length" "I") (by decide +kernel)
  have k1 := hts (.fieldLink RX4 23 "CaveLegs$Legs" "size" "I") (by decide +kernel)
  have k2 := hts (.fieldLink RX4 32 "CaveLegs$Legs" "stations" "I") (by decide +kernel)
  have L_16 : ∀ (n16 : Nat) (v_p1_size : Int32) (v_p1_stations : Int32) (r_p1_rows : Nat → Int32) (x2 : Int32) (H : Heap) (locs : List Loc) (ls : Array Slot), lv_has ls 4 [(0, .ref n_t), (1, .ref n_p1), (2, .int x2)] → va_P (dC, dI) vwCl (wd_e8c1e8 k n_t n_p1 n_letters n_p1_rows v_length v_p1_size v_p1_stations r_letters r_p1_rows) H → va_D A (wd_e8c1e8 k n_t n_p1 n_letters n_p1_rows v_length v_p1_size v_p1_stations r_letters r_p1_rows) → va_S A s.heap H locs → f_X4_describe_L16 F v_length r_letters n16 v_p1_size v_p1_stations r_p1_rows x2 = some (o_v_p1_size, o_v_p1_stations, o_r_p1_rows) → W p l e rm_X4_describe s m args below meth c H locs 0 0 Q (F0 m 16 ls []) := by
    intro n16
    induction n16 with
    | zero =>
      intro v_p1_size v_p1_stations r_p1_rows x2 H locs ls hl hP hD hS hm
      exact non_some hm
    | succ n16 ih16 =>
      intro v_p1_size v_p1_stations r_p1_rows x2 H locs ls hl hP hD hS hm
      replace hm : f_X4_describe_B16 F v_length r_letters (f_X4_describe_L16 F v_length r_letters n16) v_p1_size v_p1_stations r_p1_rows x2 = some (o_v_p1_size, o_v_p1_stations, o_r_p1_rows) := hm
      unfold f_X4_describe_B16 at hm
      refine lv_iload_n hx hb dX4_describe_16 rfl (lv_at hl 2 rfl) ?_
      refine lv_bipush (v := (8 : Int32)) hx hb dX4_describe_17 (by decide) ?_
      refine lv_iadd hx hb dX4_describe_19 ?_
      refine lv_aload_n hx hb dX4_describe_20 rfl (lv_at hl 0 rfl) ?_
      refine va_get (D := (dC, dI)) (ci := 4) (v := .int v_length) (C := RX4) (T := TX4) (N := 2) hx hb hts hinX4 hown hG.1 hP 0 rfl rfl 1 (by decide) k0 (fun _ h9 => h9) rfl dX4_describe_21 ?_
      refine lv_icmp_gt (tgt := 94) hx hb dX4_describe_24 (by decide) (fun c1 => ?_) (fun c1 => ?_)
      · replace hm := ifp c1 hm
        exact RET _ _ _ _ _ _ _ dX4_describe_94 hm hP hD hS
      · replace hm := ifn c1 hm
        refine lv_bipush (v := (10 : Int32)) hx hb dX4_describe_27 (by decide) ?_
        refine lv_aload_n hx hb dX4_describe_29 rfl (lv_at hl 0 rfl) ?_
        refine lv_iload_n hx hb dX4_describe_30 rfl (lv_at hl 2 rfl) ?_
        refine lv_iconst (v := (3 : Int32)) hx hb dX4_describe_31 (by decide) ?_
        refine lv_iadd hx hb dX4_describe_32 ?_
        obtain ⟨r2, e3, hm⟩ := bnd1_some hm
        refine g_calli (w2 := (wd_e8c1e8 k n_t n_p1 n_letters n_p1_rows v_length v_p1_size v_p1_stations r_letters r_p1_rows)) (va_runV (As := [.int (x2 + (3 : Int32))]) (rest := [.int (10 : Int32)]) ⟨hx, hb, hml, hown, hts⟩ (m_X4_value l dC dI k H.size n_t n_letters v_length r_letters (x2 + (3 : Int32)) e3) (cwV 1 hts gX4_describe_X4_value rfl rfl rfl (by decide +kernel) ⟨Nat.le_of_ble_eq_true rfl, Nat.le_of_ble_eq_true rfl⟩) (g_preV hG hP hD hS hA [0, 1] rfl (by decide) (ci := 4) (q0 := 0) rfl rfl) rfl rfl hl.1 rfl (lv_room (Nat.le_of_ble_eq_true rfl)) dX4_describe_33 ⟨Nat.le_of_ble_eq_true rfl, Nat.le_of_ble_eq_true rfl⟩) hP hD hS hA [0, 1] [2, 3] [2, 3, 0, 1] rfl rfl (by decide) (by decide) rfl (by decide) (fun H locs hP hD hS => ?_)
        refine lv_imul hx hb dX4_describe_36 ?_
        refine lv_aload_n hx hb dX4_describe_37 rfl (lv_at hl 0 rfl) ?_
        refine lv_iload_n hx hb dX4_describe_38 rfl (lv_at hl 2 rfl) ?_
        refine lv_iconst (v := (4 : Int32)) hx hb dX4_describe_39 (by decide) ?_
        refine lv_iadd hx hb dX4_describe_40 ?_
        obtain ⟨r4, e5, hm⟩ := bnd1_some hm
        refine g_calli (w2 := (wd_e8c1e8 k n_t n_p1 n_letters n_p1_rows v_length v_p1_size v_p1_stations r_letters r_p1_rows)) (va_runV (As := [.int (x2 + (4 : Int32))]) (rest := [.int ((10 : Int32) * r2)]) ⟨hx, hb, hml, hown, hts⟩ (m_X4_value l dC dI k H.size n_t n_letters v_length r_letters (x2 + (4 : Int32)) e5) (cwV 1 hts gX4_describe_X4_value rfl rfl rfl (by decide +kernel) ⟨Nat.le_of_ble_eq_true rfl, Nat.le_of_ble_eq_true rfl⟩) (g_preV hG hP hD hS hA [0, 1] rfl (by decide) (ci := 4) (q0 := 0) rfl rfl) rfl rfl hl.1 rfl (lv_room (Nat.le_of_ble_eq_true rfl)) dX4_describe_41 ⟨Nat.le_of_ble_eq_true rfl, Nat.le_of_ble_eq_true rfl⟩) hP hD hS hA [0, 1] [2, 3] [2, 3, 0, 1] rfl rfl (by decide) (by decide) rfl (by decide) (fun H locs hP hD hS => ?_)
        refine lv_iadd hx hb dX4_describe_44 ?_
        refine lv_topi (fun t6 et6 => ?_)
        replace hm := (nmd_eq et6).trans hm
        refine lv_istore_n (lv' := [(3, .int t6), (0, .ref n_t), (1, .ref n_p1), (2, .int x2)]) hx hb dX4_describe_45 rfl hl (by decide) rfl (fun ls hl => ?_)
        refine lv_aload_n hx hb dX4_describe_46 rfl (lv_at hl 2 rfl) ?_
        refine lv_aload_n hx hb dX4_describe_47 rfl (lv_at hl 1 rfl) ?_
        refine lv_iload_n hx hb dX4_describe_48 rfl (lv_at hl 3 rfl) ?_
        refine lv_iconst (v := (1 : Int32)) hx hb dX4_describe_49 (by decide) ?_
        refine lv_iadd hx hb dX4_describe_50 ?_
        obtain ⟨r7, e8, hm⟩ := bnd1_some hm
        refine g_calli (w2 := (wd_e8c1e8 k n_t n_p1 n_letters n_p1_rows v_length v_p1_size v_p1_stations r_letters r_p1_rows)) (va_runV (As := [.int (x2 + (1 : Int32))]) (rest := [.ref n_p1]) ⟨hx, hb, hml, hown, hts⟩ (m_X4_value l dC dI k H.size n_t n_letters v_length r_letters (x2 + (1 : Int32)) e8) (cwV 1 hts gX4_describe_X4_value rfl rfl rfl (by decide +kernel) ⟨Nat.le_of_ble_eq_true rfl, Nat.le_of_ble_eq_true rfl⟩) (g_preV hG hP hD hS hA [0, 1] rfl (by decide) (ci := 4) (q0 := 0) rfl rfl) rfl rfl hl.1 rfl (lv_room (Nat.le_of_ble_eq_true rfl)) dX4_describe_51 ⟨Nat.le_of_ble_eq_true rfl, Nat.le_of_ble_eq_true rfl⟩) hP hD hS hA [0, 1] [2, 3] [2, 3, 0, 1] rfl rfl (by decide) (by decide) rfl (by decide) (fun H locs hP hD hS => ?_)
        refine lv_aload_n hx hb dX4_describe_54 rfl (lv_at hl 1 rfl) ?_
        refine lv_iload_n hx hb dX4_describe_55 rfl (lv_at hl 3 rfl) ?_
        refine lv_iconst (v := (2 : Int32)) hx hb dX4_describe_56 (by decide) ?_
        refine lv_iadd hx hb dX4_describe_57 ?_
        obtain ⟨r9, e10, hm⟩ := bnd1_some hm
        refine g_calli (w2 := (wd_e8c1e8 k n_t n_p1 n_letters n_p1_rows v_length v_p1_size v_p1_stations r_letters r_p1_rows)) (va_runV (As := [.int (x2 + (2 : Int32))]) (rest := [.int r7, .ref n_p1]) ⟨hx, hb, hml, hown, hts⟩ (m_X4_value l dC dI k H.size n_t n_letters v_length r_letters (x2 + (2 : Int32)) e10) (cwV 1 hts gX4_describe_X4_value rfl rfl rfl (by decide +kernel) ⟨Nat.le_of_ble_eq_true rfl, Nat.le_of_ble_eq_true rfl⟩) (g_preV hG hP hD hS hA [0, 1] rfl (by decide) (ci := 4) (q0 := 0) rfl rfl) rfl rfl hl.1 rfl (lv_room (Nat.le_of_ble_eq_true rfl)) dX4_describe_58 ⟨Nat.le_of_ble_eq_true rfl, Nat.le_of_ble_eq_true rfl⟩) hP hD hS hA [0, 1] [2, 3] [2, 3, 0, 1] rfl rfl (by decide) (by decide) rfl (by decide) (fun H locs hP hD hS => ?_)
        refine lv_iload_n hx hb dX4_describe_61 rfl (lv_at hl 0 rfl) ?_
        refine lv_aload_n hx hb dX4_describe_62 rfl (lv_at hl 1 rfl) ?_
        refine lv_iload_n hx hb dX4_describe_63 rfl (lv_at hl 3 rfl) ?_
        refine lv_iconst (v := (5 : Int32)) hx hb dX4_describe_64 (by decide) ?_
        refine lv_iadd hx hb dX4_describe_65 ?_
        obtain ⟨r11, e12, hm⟩ := bnd1_some hm
        refine g_calli (w2 := (wd_e8c1e8 k n_t n_p1 n_letters n_p1_rows v_length v_p1_size v_p1_stations r_letters r_p1_rows)) (va_runV (As := [.int (x2 + (5 : Int32))]) (rest := [.int t6, .int r9, .int r7, .ref n_p1]) ⟨hx, hb, hml, hown, hts⟩ (m_X4_value l dC dI k H.size n_t n_letters v_length r_letters (x2 + (5 : Int32)) e12) (cwV 1 hts gX4_describe_X4_value rfl rfl rfl (by decide +kernel) ⟨Nat.le_of_ble_eq_true rfl, Nat.le_of_ble_eq_true rfl⟩) (g_preV hG hP hD hS hA [0, 1] rfl (by decide) (ci := 4) (q0 := 0) rfl rfl) rfl rfl hl.1 rfl (lv_room (Nat.le_of_ble_eq_true rfl)) dX4_describe_66 ⟨Nat.le_of_ble_eq_true rfl, Nat.le_of_ble_eq_true rfl⟩) hP hD hS hA [0, 1] [2, 3] [2, 3, 0, 1] rfl rfl (by decide) (by decide) rfl (by decide) (fun H locs hP hD hS => ?_)
        refine lv_aload_n hx hb dX4_describe_69 rfl (lv_at hl 1 rfl) ?_
        refine lv_iload_n hx hb dX4_describe_70 rfl (lv_at hl 3 rfl) ?_
        refine lv_bipush (v := (6 : Int32)) hx hb dX4_describe_71 (by decide) ?_
        refine lv_iadd hx hb dX4_describe_73 ?_
        obtain ⟨r13, e14, hm⟩ := bnd1_some hm
        refine g_calli (w2 := (wd_e8c1e8 k n_t n_p1 n_letters n_p1_rows v_length v_p1_size v_p1_stations r_letters r_p1_rows)) (va_runV (As := [.int (x2 + (6 : Int32))]) (rest := [.int r11, .int t6, .int r9, .int r7, .ref n_p1]) ⟨hx, hb, hml, hown, hts⟩ (m_X4_value l dC dI k H.size n_t n_letters v_length r_letters (x2 + (6 : Int32)) e14) (cwV 1 hts gX4_describe_X4_value rfl rfl rfl (by decide +kernel) ⟨Nat.le_of_ble_eq_true rfl, Nat.le_of_ble_eq_true rfl⟩) (g_preV hG hP hD hS hA [0, 1] rfl (by decide) (ci := 4) (q0 := 0) rfl rfl) rfl rfl hl.1 rfl (lv_room (Nat.le_of_ble_eq_true rfl)) dX4_describe_74 ⟨Nat.le_of_ble_eq_true rfl, Nat.le_of_ble_eq_true rfl⟩) hP hD hS hA [0, 1] [2, 3] [2, 3, 0, 1] rfl rfl (by decide) (by decide) rfl (by decide) (fun H locs hP hD hS => ?_)
        refine lv_aload_n hx hb dX4_describe_77 rfl (lv_at hl 1 rfl) ?_
        refine lv_iload_n hx hb dX4_describe_78 rfl (lv_at hl 3 rfl) ?_
        refine lv_bipush (v := (7 : Int32)) hx hb dX4_describe_79 (by decide) ?_
        refine lv_iadd hx hb dX4_describe_81 ?_
        obtain ⟨r15, e16, hm⟩ := bnd1_some hm
        refine g_calli (w2 := (wd_e8c1e8 k n_t n_p1 n_letters n_p1_rows v_length v_p1_size v_p1_stations r_letters r_p1_rows)) (va_runV (As := [.int (x2 + (7 : Int32))]) (rest := [.int r13, .int r11, .int t6, .int r9, .int r7, .ref n_p1]) ⟨hx, hb, hml, hown, hts⟩ (m_X4_value l dC dI k H.size n_t n_letters v_length r_letters (x2 + (7 : Int32)) e16) (cwV 1 hts gX4_describe_X4_value rfl rfl rfl (by decide +kernel) ⟨Nat.le_of_ble_eq_true rfl, Nat.le_of_ble_eq_true rfl⟩) (g_preV hG hP hD hS hA [0, 1] rfl (by decide) (ci := 4) (q0 := 0) rfl rfl) rfl rfl hl.1 rfl (lv_room (Nat.le_of_ble_eq_true rfl)) dX4_describe_82 ⟨Nat.le_of_ble_eq_true rfl, Nat.le_of_ble_eq_true rfl⟩) hP hD hS hA [0, 1] [2, 3] [2, 3, 0, 1] rfl rfl (by decide) (by decide) rfl (by decide) (fun H locs hP hD hS => ?_)
        obtain ⟨w17, w18, e19, hm⟩ := bnd2_some hm
        refine g_callv (w2 := (wd_e8c1e8 k n_t n_p1 n_letters n_p1_rows v_length w17 v_p1_stations r_letters w18)) (va_runV (As := [.int r7, .int r9, .int t6, .int r11, .int r13, .int r15]) (rest := []) ⟨hx, hb, hml, hown, hts⟩ (m_X0_add l dC dI k H.size n_p1 n_p1_rows v_p1_size v_p1_stations r_p1_rows r7 r9 t6 r11 r13 r15 e19) (cwV 6 hts gX4_describe_X0_add rfl rfl rfl (by decide +kernel) ⟨Nat.le_of_ble_eq_true rfl, Nat.le_of_ble_eq_true rfl⟩) (g_preV hG hP hD hS hA [2, 3] rfl (by decide) (ci := 0) (q0 := 2) rfl rfl) rfl rfl hl.1 rfl (lv_room (Nat.le_of_ble_eq_true rfl)) dX4_describe_85 ⟨Nat.le_of_ble_eq_true rfl, Nat.le_of_ble_eq_true rfl⟩) hP hD hS hA [2, 3] [0, 1] [0, 1, 2, 3] rfl rfl (by decide) (by decide) rfl (by decide) (fun H locs hP hD hS => ?_)
        obtain ⟨t20, et20⟩ : ∃ y : Int32, y = x2 + (8 : Int32) := ⟨_, rfl⟩
        replace hm := (nmd_eq et20).trans hm
        refine lv_iinc (v := t20) (lv' := [(2, .int t20), (3, .int t6), (0, .ref n_t), (1, .ref n_p1)]) hx hb dX4_describe_88 hl (k := 3) rfl (by rw [et20]; rfl) (by decide) rfl (fun ls hl => ?_)
        refine lv_goto (tgt := 16) hx hb dX4_describe_91 (by decide) ?_
        exact ih16 _ _ _ _ _ _ _ (lv_sub hl [2, 3, 0] rfl) hP hD hS hm
  unfold f_X4_describe at hm
  refine lv_aload_n hx hb dX4_describe_0 rfl (lv_at hl 1 rfl) ?_
  refine lv_iconst (v := (0 : Int32)) hx hb dX4_describe_1 (by decide) ?_
  refine va_put (D := (dC, dI)) (ci := 0) (v := .int (0 : Int32)) (ty := .int) (C := RX0) (T := TX0) (N := 3) hx hb hts hinX0 tyX0 tyX0_ok nmX0 hown hG.1 hP hD hS 2 rfl rfl 1 (by decide) k1 (fun _ h9 => h9) rfl (by decide +kernel) rfl rfl (Nat.le_of_ble_eq_true rfl) dX4_describe_2 (fun H locs hP hD hS => ?_)
  replace hP : va_P (dC, dI) vwCl (wd_e8c1e8 k n_t n_p1 n_letters n_p1_rows v_length (0 : Int32) v_p1_stations r_letters r_p1_rows) H := hP
  replace hD : va_D A (wd_e8c1e8 k n_t n_p1 n_letters n_p1_rows v_length (0 : Int32) v_p1_stations r_letters r_p1_rows) := hD
  refine lv_aload_n hx hb dX4_describe_5 rfl (lv_at hl 1 rfl) ?_
  refine lv_aload_n hx hb dX4_describe_6 rfl (lv_at hl 0 rfl) ?_
  refine lv_iconst (v := (1 : Int32)) hx hb dX4_describe_7 (by decide) ?_
  obtain ⟨r21, e22, hm⟩ := bnd1_some hm
  refine g_calli (w2 := (wd_e8c1e8 k n_t n_p1 n_letters n_p1_rows v_length (0 : Int32) v_p1_stations r_letters r_p1_rows)) (va_runV (As := [.int (1 : Int32)]) (rest := [.ref n_p1]) ⟨hx, hb, hml, hown, hts⟩ (m_X4_value l dC dI k H.size n_t n_letters v_length r_letters (1 : Int32) e22) (cwV 1 hts gX4_describe_X4_value rfl rfl rfl (by decide +kernel) ⟨Nat.le_of_ble_eq_true rfl, Nat.le_of_ble_eq_true rfl⟩) (g_preV hG hP hD hS hA [0, 1] rfl (by decide) (ci := 4) (q0 := 0) rfl rfl) rfl rfl hl.1 rfl (lv_room (Nat.le_of_ble_eq_true rfl)) dX4_describe_8 ⟨Nat.le_of_ble_eq_true rfl, Nat.le_of_ble_eq_true rfl⟩) hP hD hS hA [0, 1] [2, 3] [2, 3, 0, 1] rfl rfl (by decide) (by decide) rfl (by decide) (fun H locs hP hD hS => ?_)
  refine va_put (D := (dC, dI)) (ci := 0) (v := .int r21) (ty := .int) (C := RX0) (T := TX0) (N := 3) hx hb hts hinX0 tyX0 tyX0_ok nmX0 hown hG.1 hP hD hS 2 rfl rfl 2 (by decide) k2 (fun _ h9 => h9) rfl (by decide +kernel) rfl rfl (Nat.le_of_ble_eq_true rfl) dX4_describe_11 (fun H locs hP hD hS => ?_)
  replace hP : va_P (dC, dI) vwCl (wd_e8c1e8 k n_t n_p1 n_letters n_p1_rows v_length (0 : Int32) r21 r_letters r_p1_rows) H := hP
  replace hD : va_D A (wd_e8c1e8 k n_t n_p1 n_letters n_p1_rows v_length (0 : Int32) r21 r_letters r_p1_rows) := hD
  refine lv_iconst (v := (2 : Int32)) hx hb dX4_describe_14 (by decide) ?_
  refine lv_istore_n (lv' := [(2, .int (2 : Int32)), (0, .ref n_t), (1, .ref n_p1)]) hx hb dX4_describe_15 rfl hl (by decide) rfl (fun ls hl => ?_)
  exact L_16 F _ _ _ _ _ _ _ (lv_sub hl [1, 2, 0] rfl) hP hD hS hm
set_option maxRecDepth 100000 in
theorem m_X4_describe (l : Launch) (dC : Nat → ClassId) (dI : Nat → Nat → Nat) (k : Nat → ClassId) (F : Nat) (sz : Nat) (n_t n_p1 n_letters n_p1_rows : Nat) (v_length : Int32) (v_p1_size : Int32) (v_p1_stations : Int32) (r_letters : Nat → Int32) (r_p1_rows : Nat → Int32) {o_v_p1_size : (Int32)} {o_v_p1_stations : (Int32)} {o_r_p1_rows : (Nat → Int32)} (hm : f_X4_describe F v_length r_letters v_p1_size v_p1_stations r_p1_rows = some (o_v_p1_size, o_v_p1_stations, o_r_p1_rows)) : Met l yX4_describe wsX4_describe rm_X4_describe (gPre dC dI k [.ref n_t, .ref n_p1] sz (wd_e8c1e8 k n_t n_p1 n_letters n_p1_rows v_length v_p1_size v_p1_stations r_letters r_p1_rows)) (gQV dC dI (va_A (wd_e8c1e8 k n_t n_p1 n_letters n_p1_rows v_length v_p1_size v_p1_stations r_letters r_p1_rows) sz) (wd_e8c1e8 k n_t n_p1 n_letters n_p1_rows v_length o_v_p1_size o_v_p1_stations r_letters o_r_p1_rows)) 0 0 (va_A (wd_e8c1e8 k n_t n_p1 n_letters n_p1_rows v_length v_p1_size v_p1_stations r_letters r_p1_rows) sz) := by
  refine g_entry (cc := cX4_describe) (maxL := 4) (ret := none) (lv := [(0, .ref n_t), (1, .ref n_p1)]) (by decide +kernel) rfl (Nat.le_of_ble_eq_true rfl) rfl (fun p e s m below meth c ls hx hb hr hml hts hown hlk hnm hsz hG hA hP hD hS hl => ?_)
  exact k_X4_describe hx hb hml hts hown hG hA F n_t n_p1 n_letters n_p1_rows v_length v_p1_size v_p1_stations r_letters r_p1_rows o_v_p1_size o_v_p1_stations o_r_p1_rows (fun pc H locs ls q_v_p1_size q_v_p1_stations q_r_p1_rows hd ho hP hD hS => by cases ho; exact g_vret hx hb hr hlk hP hD hS hd) s.heap [] ls hl hP hD hS hm
end
