def gQEI {S : Type} (dC : Nat → ClassId) (dI : Nat → Nat → Nat) (A : Nat → Prop) (r : Int32) (w : S → va_W) : Array Value → State → Outcome → State → Prop := va_Qi (fun v (_ : S) => v = r) (fun u t => gB dC dI A (w u) t) A
section GJ
variable {dC : Nat → ClassId} {dI : Nat → Nat → Nat} {k : Nat → ClassId}
variable {p : Program} {l : Launch} {e : Env} {R : Room} {s : State} {m : MethodId} {args : Array Value} {below : List Frame} {meth : Method} {c : Code} {H : Heap} {locs : List Loc} {cells slots : Nat} {Q : State → Prop}
variable {cc : ByteArray} {pc : Nat} {ls : Array Slot} {rest : List Value} {A : Nat → Prop} {ws X : va_W}
theorem g_iretE {S : Type} {w : S → va_W} {v : Int32} (u : S) (hx : p.tables.exec = Jvm.exec) (hb : c.code = cc) (hr : meth.sig.returnType = some .int) (hlk : meth.locks = false) (hP : va_P (dC, dI) vwCl (w u) H) (hD : va_D A (w u)) (hS : va_S A s.heap H locs) (hd : decode cc pc = .ok (.ireturn, 1)) :
    W p l e R s m args below meth c H locs cells slots (MQ below (gQEI dC dI A v w) args s cells slots A) (F0 m pc ls [.int v]) :=
  W.iret hx hb hr (fun t ht _ => ⟨⟨v, u, rfl, rfl, by rw [ht]; exact hP, hD⟩, hS.F ht⟩) hS.2.2 hd
theorem g_calliPE {S : Type} {wc : va_W} {w1 w2 X1 : S → va_W} {mc ms : Nat} {r : Int32} {a : Array Value} {st0 : List Value} (hr : va_Run p l e R s m args below meth c H locs cells slots mc ms (F0 m pc ls st0) rest (gQEI dC dI (va_A (wc ++ X) H.size) r (fun u => w1 u ++ X1 u) a) (va_A (wc ++ X) H.size)) (hP : va_P (dC, dI) vwCl (ws ++ X) H) (hD : va_D A (ws ++ X)) (hS : va_S A s.heap H locs) (hA : ∀ q, s.heap.size ≤ q → A q)
    (isC isR pm : List Nat) (hC : isC.map (fun i => ws[i]?) = wc.map some) (hR : isR.map (fun i => ws[i]?) = (isR.filterMap (fun i => ws[i]?)).map some) (hn : va_nd isR = true) (hdis : ∀ i ∈ isR, i ∉ isC) (hpm : ∀ u, pm.map (fun i => (isR.filterMap (fun i => ws[i]?) ++ w1 u)[i]?) = (w2 u).map some) (hpn : va_nd pm = true)
    (kk : ∀ (u : S) (H1 : Heap) (locs1 : List Loc), va_P (dC, dI) vwCl (w2 u ++ X1 u) H1 → va_D A (w2 u ++ X1 u) → va_S A s.heap H1 locs1 → W p l e R s m args below meth c H1 locs1 (cells + mc) (slots + ms) Q (F0 m (pc + 3) ls (.int r :: rest))) : W p l e R s m args below meth c H locs cells slots Q (F0 m pc ls st0) := by
  have hFc := va_freeP hD hS hA isC hC
  refine va_calli hr hS (fun q _ h => hFc q h) hFc (fun r1 u t H1 locs1 ht hvm hw hB hz1 hk1 hS1 => ?_)
  subst hw
  obtain ⟨hP1, hD1⟩ := hB
  rw [ht] at hP1
  obtain ⟨hP2, hD2⟩ := va_joinP hP hD isC isR hC hR hn hdis hk1 hFc hP1 hD1
  exact kk u H1 locs1 (hP2.part pm (hpm u)) (hD2.part pm hpn (hpm u)) hS1
end GJ
def rm_X1_remember : Room := { frames := 2, cells := 2, slots := 67, locals := 40 }
def f_X1_remember (F : Nat) (v_next v_depth : Int32) (C : CT) (v_p1_size v_p1_stations : Int32) (r_p1_rows : Nat → Int32) : Option (Int32 × Int32 × CT) := if v_next < (0 : Int32) then some (v_next, v_depth, C) else (if v_next < (14 : Int32) then (bnd3 (match C (Int32.toNatClampNeg v_next) with | none => f_X0_copy F 0 1 (fun _ => 0) v_p1_size v_p1_stations r_p1_rows | some c => f_X0_copy F c.1 c.2.1 c.2.2 v_p1_size v_p1_stations r_p1_rows) (fun c_s c_t c_r => some (remI (v_next + (1 : Int32)) (14 : Int32), minI (v_depth + (1 : Int32)) (14 : Int32), va_up C (Int32.toNatClampNeg v_next) (some (c_s, c_t, c_r))))) else some (v_next, v_depth, C))
set_option maxHeartbeats 4000000 in
set_option maxRecDepth 100000 in
theorem k48_X1_remember {p : Program} {l : Launch} {e : Env} {s : State} {m : MethodId} {args : Array Value} {below : List Frame} {meth : Method} {c : Code} {A : Nat → Prop} {Q : State → Prop} {dC : Nat → ClassId} {dI : Nat → Nat → Nat} {k : Nat → ClassId} (hx : p.tables.exec = Jvm.exec) (hb : c.code = cX1_remember) (hml : c.maxLocals = 2) (hts : ∀ w ∈ wsX1_remember, w.before args s = true) (hown : s.vm.findClass RX1 = some m.cls) (hG : gK dC dI k A s) (hA : ∀ q : Nat, s.heap.size ≤ q → A q) (F : Nat) (n_t n_ring n_p1 n_p1_rows na nb : Nat) (v_next v_depth v_p1_size v_p1_stations v_s v_t : Int32) (r_p1_rows r_a : Nat → Int32) (Rf : Nat → Option Nat) (Y : va_W) (c_s c_t : Int32) (c_r : Nat → Int32) (hi : vp_in v_next 14) (hRf : Rf (Int32.toNatClampNeg v_next) = some na) (hc : f_X0_copy F v_s v_t r_a v_p1_size v_p1_stations r_p1_rows = some (c_s, c_t, c_r)) (RET : ∀ (H : Heap) (locs : List Loc) (ls : Array Slot), va_P (dC, dI) vwCl ([(n_t, .inr (1, [.ref n_ring, .int (remI (v_next + (1 : Int32)) (14 : Int32)), .int (minI (v_depth + (1 : Int32)) (14 : Int32))])), (n_ring, .inl (k 4, 14, .inr (.inr (.inr (.inr Rf))))), (n_p1, .inr (0, [.ref n_p1_rows, .int v_p1_size, .int v_p1_stations])), (n_p1_rows, .inl (k 0, 64, .inl r_p1_rows)), (na, .inr (0, [.ref nb, .int c_s, .int c_t])), (nb, .inl (k 0, 64, .inl c_r))] ++ Y) H → va_D A ([(n_t, .inr (1, [.ref n_ring, .int (remI (v_next + (1 : Int32)) (14 : Int32)), .int (minI (v_depth + (1 : Int32)) (14 : Int32))])), (n_ring, .inl (k 4, 14, .inr (.inr (.inr (.inr Rf))))), (n_p1, .inr (0, [.ref n_p1_rows, .int v_p1_size, .int v_p1_stations])), (n_p1_rows, .inl (k 0, 64, .inl r_p1_rows)), (na, .inr (0, [.ref nb, .int c_s, .int c_t])), (nb, .inl (k 0, 64, .inl c_r))] ++ Y) → va_S A s.heap H locs → W p l e rm_X1_remember s m args below meth c H locs 2 67 Q (F0 m 89 ls [])) (H : Heap) (locs : List Loc) (ls : Array Slot) (hl : lv_has ls 2 [(0, .ref n_t), (1, .ref n_p1)]) (hP : va_P (dC, dI) vwCl ([(n_t, .inr (1, [.ref n_ring, .int v_next, .int v_depth])), (n_ring, .inl (k 4, 14, .inr (.inr (.inr (.inr Rf))))), (n_p1, .inr (0, [.ref n_p1_rows, .int v_p1_size, .int v_p1_stations])), (n_p1_rows, .inl (k 0, 64, .inl r_p1_rows)), (na, .inr (0, [.ref nb, .int v_s, .int v_t])), (nb, .inl (k 0, 64, .inl r_a))] ++ Y) H) (hD : va_D A ([(n_t, .inr (1, [.ref n_ring, .int v_next, .int v_depth])), (n_ring, .inl (k 4, 14, .inr (.inr (.inr (.inr Rf))))), (n_p1, .inr (0, [.ref n_p1_rows, .int v_p1_size, .int v_p1_stations])), (n_p1_rows, .inl (k 0, 64, .inl r_p1_rows)), (na, .inr (0, [.ref nb, .int v_s, .int v_t])), (nb, .inl (k 0, 64, .inl r_a))] ++ Y)) (hS : va_S A s.heap H locs) : W p l e rm_X1_remember s m args below meth c H locs 2 67 Q (F0 m 48 ls []) := by
  have hinX1 : ∀ w ∈ u_ws RX1 TX1 3, w ∈ wsX1_remember := by decide +kernel
  have k0 := hts (.fieldLink RX1 11 "CaveLegs$Past" "ring" "[LCaveLegs$Legs;") (by decide +kernel)
  have k1 := hts (.fieldLink RX1 21 "CaveLegs$Past" "next" "I") (by decide +kernel)
  have k2 := hts (.fieldLink RX1 17 "CaveLegs$Past" "depth" "I") (by decide +kernel)
  have k3 := hts (.methodLink RX1 29 Lib.Math.min.name) (by decide +kernel)
  have k4 := hts (.static Lib.Math.min.name) (by decide +kernel)
  have k5 := hts (.initialized "java/lang/Math") (by decide +kernel)
  have k6 := hts (.code Lib.Math.min.name Lib.Math.min.code 2 (some .int)) (by decide +kernel)
  refine lv_aload_n hx hb dX1_remember_48 rfl (lv_at hl 0 rfl) ?_
  refine va_get (D := (dC, dI)) (ci := 1) (v := .ref n_ring) (C := RX1) (T := TX1) (N := 3) hx hb hts hinX1 hown hG.1 hP 0 rfl rfl 0 (by decide) k0 (fun _ h9 => h9) rfl dX1_remember_49 ?_
  refine lv_aload_n hx hb dX1_remember_52 rfl (lv_at hl 0 rfl) ?_
  refine va_get (D := (dC, dI)) (ci := 1) (v := .int v_next) (C := RX1) (T := TX1) (N := 3) hx hb hts hinX1 hown hG.1 hP 0 rfl rfl 1 (by decide) k1 (fun _ h9 => h9) rfl dX1_remember_53 ?_
  refine va_aldq hx hb hG.1 hP 1 4 rfl rfl hi dX1_remember_56 ?_
  rw [hRf]
  show W p l e rm_X1_remember s m args below meth c H locs 2 67 Q (F0 m 57 ls [.ref na])
  refine lv_aload_n hx hb dX1_remember_57 rfl (lv_at hl 1 rfl) ?_
  refine g_callv_x (w2 := [(n_t, .inr (1, [.ref n_ring, .int v_next, .int v_depth])), (n_ring, .inl (k 4, 14, .inr (.inr (.inr (.inr Rf))))), (n_p1, .inr (0, [.ref n_p1_rows, .int v_p1_size, .int v_p1_stations])), (n_p1_rows, .inl (k 0, 64, .inl r_p1_rows)), (na, .inr (0, [.ref nb, .int c_s, .int c_t])), (nb, .inl (k 0, 64, .inl c_r))]) (va_runV (As := [.ref n_p1]) (rest := []) ⟨hx, hb, hml, hown, hts⟩ (m_X0_copy l dC dI k F H.size na n_p1 nb n_p1_rows v_s v_t v_p1_size v_p1_stations r_a r_p1_rows hc) (cwV 1 hts gX1_remember_X0_copy rfl rfl rfl (by decide +kernel) ⟨Nat.le_of_ble_eq_true rfl, Nat.le_of_ble_eq_true rfl⟩) (g_preV hG hP hD hS hA [4, 5, 2, 3] rfl (by decide) (ci := 0) (q0 := 4) rfl rfl) rfl rfl hl.1 rfl (lv_room (Nat.le_of_ble_eq_true rfl)) dX1_remember_58 ⟨Nat.le_of_ble_eq_true rfl, Nat.le_of_ble_eq_true rfl⟩) hP hD hS hA [4, 5, 2, 3] [0, 1] [0, 1, 4, 5, 2, 3] rfl rfl rfl (by decide) (by decide) rfl (by decide) (fun H locs hP hD hS => ?_)
  replace hP : va_P (dC, dI) vwCl ([(n_t, .inr (1, [.ref n_ring, .int v_next, .int v_depth])), (n_ring, .inl (k 4, 14, .inr (.inr (.inr (.inr Rf))))), (n_p1, .inr (0, [.ref n_p1_rows, .int v_p1_size, .int v_p1_stations])), (n_p1_rows, .inl (k 0, 64, .inl r_p1_rows)), (na, .inr (0, [.ref nb, .int c_s, .int c_t])), (nb, .inl (k 0, 64, .inl c_r))] ++ Y) H := hP
  replace hD : va_D A ([(n_t, .inr (1, [.ref n_ring, .int v_next, .int v_depth])), (n_ring, .inl (k 4, 14, .inr (.inr (.inr (.inr Rf))))), (n_p1, .inr (0, [.ref n_p1_rows, .int v_p1_size, .int v_p1_stations])), (n_p1_rows, .inl (k 0, 64, .inl r_p1_rows)), (na, .inr (0, [.ref nb, .int c_s, .int c_t])), (nb, .inl (k 0, 64, .inl c_r))] ++ Y) := hD
  refine lv_aload_n hx hb dX1_remember_61 rfl (lv_at hl 0 rfl) ?_
  refine lv_aload_n hx hb dX1_remember_62 rfl (lv_at hl 0 rfl) ?_
  refine va_get (D := (dC, dI)) (ci := 1) (v := .int v_next) (C := RX1) (T := TX1) (N := 3) hx hb hts hinX1 hown hG.1 hP 0 rfl rfl 1 (by decide) k1 (fun _ h9 => h9) rfl dX1_remember_63 ?_
  refine lv_iconst (v := (1 : Int32)) hx hb dX1_remember_66 (by decide) ?_
  refine lv_iadd hx hb dX1_remember_67 ?_
  refine lv_bipush (v := (14 : Int32)) hx hb dX1_remember_68 (by decide) ?_
  refine g_irem hx hb dX1_remember_70 (by decide) ?_
  refine va_put (D := (dC, dI)) (ci := 1) (v := .int (remI (v_next + (1 : Int32)) (14 : Int32))) (ty := .int) (C := RX1) (T := TX1) (N := 3) hx hb hts hinX1 tyX1 tyX1_ok nmX1 hown hG.1 hP hD hS 0 rfl rfl 1 (by decide) k1 (fun _ h9 => h9) rfl (by decide +kernel) rfl rfl (Nat.le_of_ble_eq_true rfl) dX1_remember_71 (fun H locs hP hD hS => ?_)
  replace hP : va_P (dC, dI) vwCl ([(n_t, .inr (1, [.ref n_ring, .int (remI (v_next + (1 : Int32)) (14 : Int32)), .int v_depth])), (n_ring, .inl (k 4, 14, .inr (.inr (.inr (.inr Rf))))), (n_p1, .inr (0, [.ref n_p1_rows, .int v_p1_size, .int v_p1_stations])), (n_p1_rows, .inl (k 0, 64, .inl r_p1_rows)), (na, .inr (0, [.ref nb, .int c_s, .int c_t])), (nb, .inl (k 0, 64, .inl c_r))] ++ Y) H := hP
  replace hD : va_D A ([(n_t, .inr (1, [.ref n_ring, .int (remI (v_next + (1 : Int32)) (14 : Int32)), .int v_depth])), (n_ring, .inl (k 4, 14, .inr (.inr (.inr (.inr Rf))))), (n_p1, .inr (0, [.ref n_p1_rows, .int v_p1_size, .int v_p1_stations])), (n_p1_rows, .inl (k 0, 64, .inl r_p1_rows)), (na, .inr (0, [.ref nb, .int c_s, .int c_t])), (nb, .inl (k 0, 64, .inl c_r))] ++ Y) := hD
  refine lv_aload_n hx hb dX1_remember_74 rfl (lv_at hl 0 rfl) ?_
  refine lv_aload_n hx hb dX1_remember_75 rfl (lv_at hl 0 rfl) ?_
  refine va_get (D := (dC, dI)) (ci := 1) (v := .int v_depth) (C := RX1) (T := TX1) (N := 3) hx hb hts hinX1 hown hG.1 hP 0 rfl rfl 2 (by decide) k2 (fun _ h9 => h9) rfl dX1_remember_76 ?_
  refine lv_iconst (v := (1 : Int32)) hx hb dX1_remember_79 (by decide) ?_
  refine lv_iadd hx hb dX1_remember_80 ?_
  refine lv_bipush (v := (14 : Int32)) hx hb dX1_remember_81 (by decide) ?_
  refine g_min hx hb (hml.trans hl.1.symm) hown k3 k4 k5 k6 (Nat.le_of_ble_eq_true rfl) (Nat.le_of_ble_eq_true rfl) (Nat.le_of_ble_eq_true rfl) (Nat.le_of_ble_eq_true rfl) dX1_remember_83 ?_
  refine va_put (D := (dC, dI)) (ci := 1) (v := .int (minI (v_depth + (1 : Int32)) (14 : Int32))) (ty := .int) (C := RX1) (T := TX1) (N := 3) hx hb hts hinX1 tyX1 tyX1_ok nmX1 hown hG.1 hP hD hS 0 rfl rfl 2 (by decide) k2 (fun _ h9 => h9) rfl (by decide +kernel) rfl rfl (Nat.le_of_ble_eq_true rfl) dX1_remember_86 (fun H locs hP hD hS => ?_)
  replace hP : va_P (dC, dI) vwCl ([(n_t, .inr (1, [.ref n_ring, .int (remI (v_next + (1 : Int32)) (14 : Int32)), .int (minI (v_depth + (1 : Int32)) (14 : Int32))])), (n_ring, .inl (k 4, 14, .inr (.inr (.inr (.inr Rf))))), (n_p1, .inr (0, [.ref n_p1_rows, .int v_p1_size, .int v_p1_stations])), (n_p1_rows, .inl (k 0, 64, .inl r_p1_rows)), (na, .inr (0, [.ref nb, .int c_s, .int c_t])), (nb, .inl (k 0, 64, .inl c_r))] ++ Y) H := hP
  replace hD : va_D A ([(n_t, .inr (1, [.ref n_ring, .int (remI (v_next + (1 : Int32)) (14 : Int32)), .int (minI (v_depth + (1 : Int32)) (14 : Int32))])), (n_ring, .inl (k 4, 14, .inr (.inr (.inr (.inr Rf))))), (n_p1, .inr (0, [.ref n_p1_rows, .int v_p1_size, .int v_p1_stations])), (n_p1_rows, .inl (k 0, 64, .inl r_p1_rows)), (na, .inr (0, [.ref nb, .int c_s, .int c_t])), (nb, .inl (k 0, 64, .inl c_r))] ++ Y) := hD
  exact RET H locs ls hP hD hS
theorem in_of {x : Int32} {n : Int32} {N : Nat} (h0 : ¬ x < 0) (h1 : x < n) (hn : n.toInt = N) : vp_in x N := by
  refine vp_in_iff.mpr ⟨?_, ?_⟩
  · rw [Int32.lt_iff_toInt_lt] at h0
    have e : (0 : Int32).toInt = 0 := by decide
    rw [e] at h0
    omega
  · rw [Int32.lt_iff_toInt_lt, hn] at h1
    exact h1
set_option maxHeartbeats 4000000 in
set_option maxRecDepth 100000 in
theorem m_X1_remember (l : Launch) (dC : Nat → ClassId) (dI : Nat → Nat → Nat) (k : Nat → ClassId) (F : Nat) (sz : Nat) (n_t n_ring n_p1 n_p1_rows : Nat) (AD : Nat → Nat × Nat) (v_next v_depth : Int32) (C : CT) (v_p1_size v_p1_stations : Int32) (r_p1_rows : Nat → Int32) {o_next o_depth : Int32} {o_C : CT} (hm : f_X1_remember F v_next v_depth C v_p1_size v_p1_stations r_p1_rows = some (o_next, o_depth, o_C)) : Met l yX1_remember wsX1_remember rm_X1_remember (gPre dC dI k [.ref n_t, .ref n_p1] sz ([(n_t, .inr (1, [.ref n_ring, .int v_next, .int v_depth])), (n_ring, .inl (k 4, 14, .inr (.inr (.inr (.inr (rg AD C)))))), (n_p1, .inr (0, [.ref n_p1_rows, .int v_p1_size, .int v_p1_stations])), (n_p1_rows, .inl (k 0, 64, .inl r_p1_rows))] ++ pw k AD C 14)) (gQE dC dI (va_A ([(n_t, .inr (1, [.ref n_ring, .int v_next, .int v_depth])), (n_ring, .inl (k 4, 14, .inr (.inr (.inr (.inr (rg AD C)))))), (n_p1, .inr (0, [.ref n_p1_rows, .int v_p1_size, .int v_p1_stations])), (n_p1_rows, .inl (k 0, 64, .inl r_p1_rows))] ++ pw k AD C 14) sz) (fun AD : Nat → Nat × Nat => ([(n_t, .inr (1, [.ref n_ring, .int o_next, .int o_depth])), (n_ring, .inl (k 4, 14, .inr (.inr (.inr (.inr (rg AD o_C)))))), (n_p1, .inr (0, [.ref n_p1_rows, .int v_p1_size, .int v_p1_stations])), (n_p1_rows, .inl (k 0, 64, .inl r_p1_rows))] ++ pw k AD o_C 14))) 2 67 (va_A ([(n_t, .inr (1, [.ref n_ring, .int v_next, .int v_depth])), (n_ring, .inl (k 4, 14, .inr (.inr (.inr (.inr (rg AD C)))))), (n_p1, .inr (0, [.ref n_p1_rows, .int v_p1_size, .int v_p1_stations])), (n_p1_rows, .inl (k 0, 64, .inl r_p1_rows))] ++ pw k AD C 14) sz) := by
  refine g_entry (cc := cX1_remember) (maxL := 2) (ret := none) (lv := [(0, .ref n_t), (1, .ref n_p1)]) (by decide +kernel) rfl (Nat.le_of_ble_eq_true rfl) rfl (fun p e s m below meth c ls hx hb hr hml hts hown hlk hnm hsz hG hA hP hD hS hl => ?_)
  generalize hAe : va_A ([(n_t, .inr (1, [.ref n_ring, .int v_next, .int v_depth])), (n_ring, .inl (k 4, 14, .inr (.inr (.inr (.inr (rg AD C)))))), (n_p1, .inr (0, [.ref n_p1_rows, .int v_p1_size, .int v_p1_stations])), (n_p1_rows, .inl (k 0, 64, .inl r_p1_rows))] ++ pw k AD C 14) sz = A at hG hA hD hS ⊢
  obtain ⟨H, hHe⟩ : ∃ H, H = s.heap := ⟨_, rfl⟩
  obtain ⟨locs, hle⟩ : ∃ q : List Loc, q = [] := ⟨_, rfl⟩
  have hS : va_S A s.heap H locs := by rw [hHe, hle]; exact hS
  have hP : va_P (dC, dI) vwCl ([(n_t, .inr (1, [.ref n_ring, .int v_next, .int v_depth])), (n_ring, .inl (k 4, 14, .inr (.inr (.inr (.inr (rg AD C)))))), (n_p1, .inr (0, [.ref n_p1_rows, .int v_p1_size, .int v_p1_stations])), (n_p1_rows, .inl (k 0, 64, .inl r_p1_rows))] ++ pw k AD C 14) H := by rw [hHe]; exact hP
  suffices hgo : W p l e rm_X1_remember s m [.ref n_t, .ref n_p1].toArray below meth c H locs 0 0 (MQ below (gQE dC dI A (fun AD : Nat → Nat × Nat => ([(n_t, .inr (1, [.ref n_ring, .int o_next, .int o_depth])), (n_ring, .inl (k 4, 14, .inr (.inr (.inr (.inr (rg AD o_C)))))), (n_p1, .inr (0, [.ref n_p1_rows, .int v_p1_size, .int v_p1_stations])), (n_p1_rows, .inl (k 0, 64, .inl r_p1_rows))] ++ pw k AD o_C 14))) [.ref n_t, .ref n_p1].toArray s 2 67 A) (F0 m 0 ls []) by rw [hHe, hle] at hgo; exact hgo
  clear hHe hle
  have hinX0 : ∀ w ∈ u_ws RX0 TX0 3, w ∈ wsX1_remember := by decide +kernel
  have hinX1 : ∀ w ∈ u_ws RX1 TX1 3, w ∈ wsX1_remember := by decide +kernel
  have k0 := hts (.fieldLink RX1 21 "CaveLegs$Past" "next" "I") (by decide +kernel)
  have k1 := hts (.fieldLink RX1 11 "CaveLegs$Past" "ring" "[LCaveLegs$Legs;") (by decide +kernel)
  have k2 := hts (.classLink RX1 9 RX0) (by decide +kernel)
  have k3 := hts (.instantiable RX0 3) (by decide +kernel)
  have k4 := hts (.initialized RX0) (by decide +kernel)
  have k5 := hts (.instanceMethod yX0_init) (by decide +kernel)
  unfold f_X1_remember at hm
  refine lv_aload_n hx hb dX1_remember_0 rfl (lv_at hl 0 rfl) ?_
  refine va_get (D := (dC, dI)) (ci := 1) (v := .int v_next) (C := RX1) (T := TX1) (N := 3) hx hb hts hinX1 hown hG.1 hP 0 rfl rfl 1 (by decide) k0 (fun _ h9 => h9) rfl dX1_remember_1 ?_
  refine lv_if_lt (tgt := 19) hx hb dX1_remember_4 (by decide) (fun c1 => ?_) (fun c1 => ?_)
  · replace hm := ifp c1 hm
    cases hm
    refine W.widen (k := 2) (n := 67) (by decide) (by decide) ?_
    exact g_vretE AD hx hb hr hlk hP hD hS dX1_remember_19
  · replace hm := ifn c1 hm
    refine lv_aload_n hx hb dX1_remember_7 rfl (lv_at hl 0 rfl) ?_
    refine va_get (D := (dC, dI)) (ci := 1) (v := .int v_next) (C := RX1) (T := TX1) (N := 3) hx hb hts hinX1 hown hG.1 hP 0 rfl rfl 1 (by decide) k0 (fun _ h9 => h9) rfl dX1_remember_8 ?_
    refine lv_aload_n hx hb dX1_remember_11 rfl (lv_at hl 0 rfl) ?_
    refine va_get (D := (dC, dI)) (ci := 1) (v := .ref n_ring) (C := RX1) (T := TX1) (N := 3) hx hb hts hinX1 hown hG.1 hP 0 rfl rfl 0 (by decide) k1 (fun _ h9 => h9) rfl dX1_remember_12 ?_
    refine va_alen (v := (14 : Int32)) hx hb hG.1 hP 1 4 rfl rfl rfl dX1_remember_15 ?_
    refine lv_icmp_lt (tgt := 20) hx hb dX1_remember_16 (by decide) (fun c2 => ?_) (fun c2 => ?_)
    · replace hm := ifp c2 hm
      obtain ⟨c_s, c_t, c_r, hc, hm⟩ := bnd3_some hm
      cases hm
      have hi : vp_in v_next 14 := in_of c1 c2 (by decide)
      have hj : Int32.toNatClampNeg v_next < 14 := Nat.not_le.mp (fun q => hi (Or.inr q))
      refine lv_aload_n hx hb dX1_remember_20 rfl (lv_at hl 0 rfl) ?_
      refine va_get (D := (dC, dI)) (ci := 1) (v := .ref n_ring) (C := RX1) (T := TX1) (N := 3) hx hb hts hinX1 hown hG.1 hP 0 rfl rfl 0 (by decide) k1 (fun _ h9 => h9) rfl dX1_remember_21 ?_
      refine lv_aload_n hx hb dX1_remember_24 rfl (lv_at hl 0 rfl) ?_
      refine va_get (D := (dC, dI)) (ci := 1) (v := .int v_next) (C := RX1) (T := TX1) (N := 3) hx hb hts hinX1 hown hG.1 hP 0 rfl rfl 1 (by decide) k0 (fun _ h9 => h9) rfl dX1_remember_25 ?_
      refine va_aldq hx hb hG.1 hP 1 4 rfl rfl hi dX1_remember_28 ?_
      cases hC : C (Int32.toNatClampNeg v_next) with
      | none =>
        rw [hC] at hc
        rw [rg_none hC]
        refine lv_ifnonnullN hx hb dX1_remember_29 ?_
        refine lv_aload_n hx hb dX1_remember_32 rfl (lv_at hl 0 rfl) ?_
        refine va_get (D := (dC, dI)) (ci := 1) (v := .ref n_ring) (C := RX1) (T := TX1) (N := 3) hx hb hts hinX1 hown hG.1 hP 0 rfl rfl 0 (by decide) k1 (fun _ h9 => h9) rfl dX1_remember_33 ?_
        refine lv_aload_n hx hb dX1_remember_36 rfl (lv_at hl 0 rfl) ?_
        refine va_get (D := (dC, dI)) (ci := 1) (v := .int v_next) (C := RX1) (T := TX1) (N := 3) hx hb hts hinX1 hown hG.1 hP 0 rfl rfl 1 (by decide) k0 (fun _ h9 => h9) rfl dX1_remember_37 ?_
        refine va_new (ci := 0) (fs := [.null, .int 0, .int 0]) (C := RX0) (T := TX0) (N := 3) hx hb hts hinX0 tyX0 tyX0_ok hown k2 k3 k4 hG.1 hP hD hS hA rfl (fun j hj => by rcases (show j = 0 ∨ j = 1 ∨ j = 2 by omega) with rfl | rfl | rfl <;> rfl) (Nat.le_of_ble_eq_true rfl) (Nat.le_of_ble_eq_true rfl) dX1_remember_40 (fun nq H hP hD hS => ?_)
        replace hP := va_P.swap hP
        replace hD := va_D.swap hD
        replace hP : va_P (dC, dI) vwCl ([(n_t, .inr (1, [.ref n_ring, .int v_next, .int v_depth])), (n_ring, .inl (k 4, 14, .inr (.inr (.inr (.inr (rg AD C)))))), (n_p1, .inr (0, [.ref n_p1_rows, .int v_p1_size, .int v_p1_stations])), (n_p1_rows, .inl (k 0, 64, .inl r_p1_rows)), (nq, .inr (0, [.null, .int 0, .int 0]))] ++ pw k AD C 14) H := hP
        replace hD : va_D A ([(n_t, .inr (1, [.ref n_ring, .int v_next, .int v_depth])), (n_ring, .inl (k 4, 14, .inr (.inr (.inr (.inr (rg AD C)))))), (n_p1, .inr (0, [.ref n_p1_rows, .int v_p1_size, .int v_p1_stations])), (n_p1_rows, .inl (k 0, 64, .inl r_p1_rows)), (nq, .inr (0, [.null, .int 0, .int 0]))] ++ pw k AD C 14) := hD
        refine lv_dup hx hb dX1_remember_43 rfl ?_
        refine g_callE_x (w2 := fun u => [(n_t, .inr (1, [.ref n_ring, .int v_next, .int v_depth])), (n_ring, .inl (k 4, 14, .inr (.inr (.inr (.inr (rg AD C)))))), (n_p1, .inr (0, [.ref n_p1_rows, .int v_p1_size, .int v_p1_stations])), (n_p1_rows, .inl (k 0, 64, .inl r_p1_rows)), (nq, .inr (0, [.ref (u 0), .int 0, .int 1])), ((u 0), .inl (k 0, 64, .inl (fun _ => 0)))]) (va_runIN (As := []) (rest := [.ref nq, .int v_next, .ref n_ring]) ⟨hx, hb, hml, hown, hts⟩ (m_X0_init l dC dI k H.size nq) ⟨va_cnB 0 hts gX1_remember_X0_init_n24 rfl rfl rfl hG.2.1.2.2.2.2.2.2.1 k4 (by decide +kernel) ⟨Nat.le_of_ble_eq_true rfl, Nat.le_of_ble_eq_true rfl⟩, rfl, k5⟩ (g_preS hG hP hD hS hA [4] rfl (by decide)) rfl rfl hl.1 rfl (lv_room (Nat.le_of_ble_eq_true rfl)) dX1_remember_44 ⟨Nat.le_of_ble_eq_true rfl, Nat.le_of_ble_eq_true rfl⟩) hP hD hS hA [4] [0, 1, 2, 3] [0, 1, 2, 3, 4, 5] rfl rfl rfl (by decide) (by decide) (fun _ => rfl) (by decide) (fun u H locs hP hD hS => ?_)
        replace hP : va_P (dC, dI) vwCl ([(n_t, .inr (1, [.ref n_ring, .int v_next, .int v_depth])), (n_ring, .inl (k 4, 14, .inr (.inr (.inr (.inr (rg AD C)))))), (n_p1, .inr (0, [.ref n_p1_rows, .int v_p1_size, .int v_p1_stations])), (n_p1_rows, .inl (k 0, 64, .inl r_p1_rows)), (nq, .inr (0, [.ref (u 0), .int 0, .int 1])), ((u 0), .inl (k 0, 64, .inl (fun _ => 0)))] ++ pw k AD C 14) H := hP
        replace hD : va_D A ([(n_t, .inr (1, [.ref n_ring, .int v_next, .int v_depth])), (n_ring, .inl (k 4, 14, .inr (.inr (.inr (.inr (rg AD C)))))), (n_p1, .inr (0, [.ref n_p1_rows, .int v_p1_size, .int v_p1_stations])), (n_p1_rows, .inl (k 0, 64, .inl r_p1_rows)), (nq, .inr (0, [.ref (u 0), .int 0, .int 1])), ((u 0), .inl (k 0, 64, .inl (fun _ => 0)))] ++ pw k AD C 14) := hD
        refine va_astq hx hb hG.1 hP hD hS 1 4 4 0 rfl rfl rfl rfl hi dX1_remember_47 (fun H locs hP hD hS => ?_)
        replace hP : va_P (dC, dI) vwCl ([(n_t, .inr (1, [.ref n_ring, .int v_next, .int v_depth])), (n_ring, .inl (k 4, 14, .inr (.inr (.inr (.inr (va_up (rg AD C) (Int32.toNatClampNeg v_next) (some nq))))))), (n_p1, .inr (0, [.ref n_p1_rows, .int v_p1_size, .int v_p1_stations])), (n_p1_rows, .inl (k 0, 64, .inl r_p1_rows)), (nq, .inr (0, [.ref (u 0), .int 0, .int 1])), ((u 0), .inl (k 0, 64, .inl (fun _ => 0)))] ++ pw k AD C 14) H := hP
        replace hD : va_D A ([(n_t, .inr (1, [.ref n_ring, .int v_next, .int v_depth])), (n_ring, .inl (k 4, 14, .inr (.inr (.inr (.inr (va_up (rg AD C) (Int32.toNatClampNeg v_next) (some nq))))))), (n_p1, .inr (0, [.ref n_p1_rows, .int v_p1_size, .int v_p1_stations])), (n_p1_rows, .inl (k 0, 64, .inl r_p1_rows)), (nq, .inr (0, [.ref (u 0), .int 0, .int 1])), ((u 0), .inl (k 0, 64, .inl (fun _ => 0)))] ++ pw k AD C 14) := hD
        refine W.widen (k := 2) (n := 67) (by decide) (by decide) ?_
        refine k48_X1_remember hx hb hml hts hown hG hA F n_t n_ring n_p1 n_p1_rows nq (u 0) v_next v_depth v_p1_size v_p1_stations 0 1 r_p1_rows (fun _ => 0) (va_up (rg AD C) (Int32.toNatClampNeg v_next) (some nq)) (pw k AD C 14) c_s c_t c_r hi (up_same _ _ _) hc (fun H locs ls hP hD hS => ?_) H locs ls hl hP hD hS
        have hpp := List.Perm.append_left [(n_t, .inr (1, [.ref n_ring, .int (remI (v_next + (1 : Int32)) (14 : Int32)), .int (minI (v_depth + (1 : Int32)) (14 : Int32))])), (n_ring, .inl (k 4, 14, .inr (.inr (.inr (.inr (rg (va_up AD (Int32.toNatClampNeg v_next) (nq, u 0)) (va_up C (Int32.toNatClampNeg v_next) (some (c_s, c_t, c_r))))))))), (n_p1, .inr (0, [.ref n_p1_rows, .int v_p1_size, .int v_p1_stations])), (n_p1_rows, .inl (k 0, 64, .inl r_p1_rows))] (pw_put (k := k) (AD := AD) (C := C) nq (u 0) (c_s, c_t, c_r) hj)
        rw [up_none hC] at hpp
        rw [rg_new (b := u 0) (c := (c_s, c_t, c_r))] at hP hD
        exact g_vretE (va_up AD (Int32.toNatClampNeg v_next) (nq, u 0)) hx hb hr hlk (vP_perm hpp hP) (vD_perm hpp hD) hS dX1_remember_89
      | some c0 =>
        rw [hC] at hc
        rw [rg_some hC]
        refine lv_ifnonnull (tgt := 48) hx hb dX1_remember_29 (by decide) ?_
        refine W.widen (k := 2) (n := 67) (by decide) (by decide) ?_
        have hp0 := List.Perm.append_left [(n_t, .inr (1, [.ref n_ring, .int v_next, .int v_depth])), (n_ring, .inl (k 4, 14, .inr (.inr (.inr (.inr (rg AD C)))))), (n_p1, .inr (0, [.ref n_p1_rows, .int v_p1_size, .int v_p1_stations])), (n_p1_rows, .inl (k 0, 64, .inl r_p1_rows))] (pw_take (k := k) (AD := AD) hC hj)
        refine k48_X1_remember hx hb hml hts hown hG hA F n_t n_ring n_p1 n_p1_rows (AD (Int32.toNatClampNeg v_next)).1 (AD (Int32.toNatClampNeg v_next)).2 v_next v_depth v_p1_size v_p1_stations c0.1 c0.2.1 r_p1_rows c0.2.2 (rg AD C) (pw k AD (va_up C (Int32.toNatClampNeg v_next) none) 14) c_s c_t c_r hi (rg_some hC) hc (fun H locs ls hP hD hS => ?_) H locs ls hl (vP_perm hp0 hP) (vD_perm hp0 hD) hS
        have hpp := List.Perm.append_left [(n_t, .inr (1, [.ref n_ring, .int (remI (v_next + (1 : Int32)) (14 : Int32)), .int (minI (v_depth + (1 : Int32)) (14 : Int32))])), (n_ring, .inl (k 4, 14, .inr (.inr (.inr (.inr (rg (va_up AD (Int32.toNatClampNeg v_next) ((AD (Int32.toNatClampNeg v_next)).1, (AD (Int32.toNatClampNeg v_next)).2)) (va_up C (Int32.toNatClampNeg v_next) (some (c_s, c_t, c_r))))))))), (n_p1, .inr (0, [.ref n_p1_rows, .int v_p1_size, .int v_p1_stations])), (n_p1_rows, .inl (k 0, 64, .inl r_p1_rows))] (pw_put (k := k) (AD := AD) (C := C) (AD (Int32.toNatClampNeg v_next)).1 (AD (Int32.toNatClampNeg v_next)).2 (c_s, c_t, c_r) hj)
        rw [rg_old (c' := (c_s, c_t, c_r)) hC] at hP hD
        exact g_vretE (va_up AD (Int32.toNatClampNeg v_next) ((AD (Int32.toNatClampNeg v_next)).1, (AD (Int32.toNatClampNeg v_next)).2)) hx hb hr hlk (vP_perm hpp hP) (vD_perm hpp hD) hS dX1_remember_89
    · replace hm := ifn c2 hm
      cases hm
      refine W.widen (k := 2) (n := 67) (by decide) (by decide) ?_
      exact g_vretE AD hx hb hr hlk hP hD hS dX1_remember_19
def rm_X1_restore : Room := { frames := 1, cells := 0, slots := 0, locals := 22 }
def f_X1_restore (F : Nat) (v_next v_depth : Int32) (C : CT) (v_p1_size v_p1_stations : Int32) (r_p1_rows : Nat → Int32) : Option (Int32 × Int32 × Int32 × Int32 × Int32 × (Nat → Int32)) := nmd (remI ((v_next + (14 : Int32)) - (1 : Int32)) (14 : Int32)) (fun t => if v_depth < (1 : Int32) then some ((0 : Int32), v_next, v_depth, v_p1_size, v_p1_stations, r_p1_rows) else (if t < (0 : Int32) then some ((0 : Int32), v_next, v_depth, v_p1_size, v_p1_stations, r_p1_rows) else (if (14 : Int32) ≤ t then some ((0 : Int32), v_next, v_depth, v_p1_size, v_p1_stations, r_p1_rows) else (match C (Int32.toNatClampNeg t) with | none => some ((0 : Int32), v_next, v_depth, v_p1_size, v_p1_stations, r_p1_rows) | some c => bnd3 (f_X0_copy F v_p1_size v_p1_stations r_p1_rows c.1 c.2.1 c.2.2) (fun c_s c_t c_r => some ((1 : Int32), t, v_depth - (1 : Int32), c_s, c_t, c_r))))))
theorem i32_lt_of {x y : Int32} (h : ¬ y ≤ x) : x < y := by
  rw [Int32.le_iff_toInt_le] at h
  rw [Int32.lt_iff_toInt_lt]
  omega
set_option maxHeartbeats 4000000 in
set_option maxRecDepth 100000 in
theorem m_X1_restore (l : Launch) (dC : Nat → ClassId) (dI : Nat → Nat → Nat) (k : Nat → ClassId) (F : Nat) (sz : Nat) (n_t n_ring n_p1 n_p1_rows : Nat) (AD : Nat → Nat × Nat) (v_next v_depth : Int32) (C : CT) (v_p1_size v_p1_stations : Int32) (r_p1_rows : Nat → Int32) {o_r o_next o_depth o_size o_stations : Int32} {o_rows : Nat → Int32} (hm : f_X1_restore F v_next v_depth C v_p1_size v_p1_stations r_p1_rows = some (o_r, o_next, o_depth, o_size, o_stations, o_rows)) : Met l yX1_restore wsX1_restore rm_X1_restore (gPre dC dI k [.ref n_t, .ref n_p1] sz ([(n_t, .inr (1, [.ref n_ring, .int v_next, .int v_depth])), (n_ring, .inl (k 4, 14, .inr (.inr (.inr (.inr (rg AD C)))))), (n_p1, .inr (0, [.ref n_p1_rows, .int v_p1_size, .int v_p1_stations])), (n_p1_rows, .inl (k 0, 64, .inl r_p1_rows))] ++ pw k AD C 14)) (gQI dC dI (va_A ([(n_t, .inr (1, [.ref n_ring, .int v_next, .int v_depth])), (n_ring, .inl (k 4, 14, .inr (.inr (.inr (.inr (rg AD C)))))), (n_p1, .inr (0, [.ref n_p1_rows, .int v_p1_size, .int v_p1_stations])), (n_p1_rows, .inl (k 0, 64, .inl r_p1_rows))] ++ pw k AD C 14) sz) o_r ([(n_t, .inr (1, [.ref n_ring, .int o_next, .int o_depth])), (n_ring, .inl (k 4, 14, .inr (.inr (.inr (.inr (rg AD C)))))), (n_p1, .inr (0, [.ref n_p1_rows, .int o_size, .int o_stations])), (n_p1_rows, .inl (k 0, 64, .inl o_rows))] ++ pw k AD C 14)) 0 0 (va_A ([(n_t, .inr (1, [.ref n_ring, .int v_next, .int v_depth])), (n_ring, .inl (k 4, 14, .inr (.inr (.inr (.inr (rg AD C)))))), (n_p1, .inr (0, [.ref n_p1_rows, .int v_p1_size, .int v_p1_stations])), (n_p1_rows, .inl (k 0, 64, .inl r_p1_rows))] ++ pw k AD C 14) sz) := by
  refine g_entry (cc := cX1_restore) (maxL := 3) (ret := (some .boolean)) (lv := [(0, .ref n_t), (1, .ref n_p1)]) (by decide +kernel) rfl (Nat.le_of_ble_eq_true rfl) rfl (fun p e s m below meth c ls hx hb hr hml hts hown hlk hnm hsz hG hA hP hD hS hl => ?_)
  generalize hAe : va_A ([(n_t, .inr (1, [.ref n_ring, .int v_next, .int v_depth])), (n_ring, .inl (k 4, 14, .inr (.inr (.inr (.inr (rg AD C)))))), (n_p1, .inr (0, [.ref n_p1_rows, .int v_p1_size, .int v_p1_stations])), (n_p1_rows, .inl (k 0, 64, .inl r_p1_rows))] ++ pw k AD C 14) sz = A at hG hA hD hS ⊢
  obtain ⟨H, hHe⟩ : ∃ H, H = s.heap := ⟨_, rfl⟩
  obtain ⟨locs, hle⟩ : ∃ q : List Loc, q = [] := ⟨_, rfl⟩
  have hS : va_S A s.heap H locs := by rw [hHe, hle]; exact hS
  have hP : va_P (dC, dI) vwCl ([(n_t, .inr (1, [.ref n_ring, .int v_next, .int v_depth])), (n_ring, .inl (k 4, 14, .inr (.inr (.inr (.inr (rg AD C)))))), (n_p1, .inr (0, [.ref n_p1_rows, .int v_p1_size, .int v_p1_stations])), (n_p1_rows, .inl (k 0, 64, .inl r_p1_rows))] ++ pw k AD C 14) H := by rw [hHe]; exact hP
  suffices hgo : W p l e rm_X1_restore s m [.ref n_t, .ref n_p1].toArray below meth c H locs 0 0 (MQ below (gQI dC dI A o_r ([(n_t, .inr (1, [.ref n_ring, .int o_next, .int o_depth])), (n_ring, .inl (k 4, 14, .inr (.inr (.inr (.inr (rg AD C)))))), (n_p1, .inr (0, [.ref n_p1_rows, .int o_size, .int o_stations])), (n_p1_rows, .inl (k 0, 64, .inl o_rows))] ++ pw k AD C 14)) [.ref n_t, .ref n_p1].toArray s 0 0 A) (F0 m 0 ls []) by rw [hHe, hle] at hgo; exact hgo
  clear hHe hle
  have hinX1 : ∀ w ∈ u_ws RX1 TX1 3, w ∈ wsX1_restore := by decide +kernel
  have k0 := hts (.fieldLink RX1 21 "CaveLegs$Past" "next" "I") (by decide +kernel)
  have k1 := hts (.fieldLink RX1 17 "CaveLegs$Past" "depth" "I") (by decide +kernel)
  have k2 := hts (.fieldLink RX1 11 "CaveLegs$Past" "ring" "[LCaveLegs$Legs;") (by decide +kernel)
  unfold f_X1_restore at hm
  refine lv_aload_n hx hb dX1_restore_0 rfl (lv_at hl 0 rfl) ?_
  refine va_get (D := (dC, dI)) (ci := 1) (v := .int v_next) (C := RX1) (T := TX1) (N := 3) hx hb hts hinX1 hown hG.1 hP 0 rfl rfl 1 (by decide) k0 (fun _ h9 => h9) rfl dX1_restore_1 ?_
  refine lv_bipush (v := (14 : Int32)) hx hb dX1_restore_4 (by decide) ?_
  refine lv_iadd hx hb dX1_restore_6 ?_
  refine lv_iconst (v := (1 : Int32)) hx hb dX1_restore_7 (by decide) ?_
  refine lv_isub hx hb dX1_restore_8 ?_
  refine lv_bipush (v := (14 : Int32)) hx hb dX1_restore_9 (by decide) ?_
  refine g_irem hx hb dX1_restore_11 (by decide) ?_
  refine lv_topi (fun t et => ?_)
  replace hm := (nmd_eq et).trans hm
  refine lv_istore_n (lv' := [(2, .int t), (0, .ref n_t), (1, .ref n_p1)]) hx hb dX1_restore_12 rfl hl (by decide) rfl (fun ls hl => ?_)
  refine lv_aload_n hx hb dX1_restore_13 rfl (lv_at hl 1 rfl) ?_
  refine va_get (D := (dC, dI)) (ci := 1) (v := .int v_depth) (C := RX1) (T := TX1) (N := 3) hx hb hts hinX1 hown hG.1 hP 0 rfl rfl 2 (by decide) k1 (fun _ h9 => h9) rfl dX1_restore_14 ?_
  refine lv_iconst (v := (1 : Int32)) hx hb dX1_restore_17 (by decide) ?_
  refine lv_icmp_lt (tgt := 43) hx hb dX1_restore_18 (by decide) (fun c1 => ?_) (fun c1 => ?_)
  · replace hm := ifp c1 hm
    cases hm
    refine lv_iconst (v := (0 : Int32)) hx hb dX1_restore_43 (by decide) ?_
    exact g_iretz hx hb hr hlk hP hD hS (by decide +kernel) dX1_restore_44
  · replace hm := ifn c1 hm
    refine lv_iload_n hx hb dX1_restore_21 rfl (lv_at hl 0 rfl) ?_
    refine lv_if_lt (tgt := 43) hx hb dX1_restore_22 (by decide) (fun c2 => ?_) (fun c2 => ?_)
    · replace hm := ifp c2 hm
      cases hm
      refine lv_iconst (v := (0 : Int32)) hx hb dX1_restore_43 (by decide) ?_
      exact g_iretz hx hb hr hlk hP hD hS (by decide +kernel) dX1_restore_44
    · replace hm := ifn c2 hm
      refine lv_iload_n hx hb dX1_restore_25 rfl (lv_at hl 0 rfl) ?_
      refine lv_aload_n hx hb dX1_restore_26 rfl (lv_at hl 1 rfl) ?_
      refine va_get (D := (dC, dI)) (ci := 1) (v := .ref n_ring) (C := RX1) (T := TX1) (N := 3) hx hb hts hinX1 hown hG.1 hP 0 rfl rfl 0 (by decide) k2 (fun _ h9 => h9) rfl dX1_restore_27 ?_
      refine va_alen (v := (14 : Int32)) hx hb hG.1 hP 1 4 rfl rfl rfl dX1_restore_30 ?_
      refine lv_icmp_ge (tgt := 43) hx hb dX1_restore_31 (by decide) (fun c3 => ?_) (fun c3 => ?_)
      · replace hm := ifp c3 hm
        cases hm
        refine lv_iconst (v := (0 : Int32)) hx hb dX1_restore_43 (by decide) ?_
        exact g_iretz hx hb hr hlk hP hD hS (by decide +kernel) dX1_restore_44
      · replace hm := ifn c3 hm
        have hi : vp_in t 14 := in_of c2 (i32_lt_of c3) (by decide)
        have hj : Int32.toNatClampNeg t < 14 := Nat.not_le.mp (fun q => hi (Or.inr q))
        refine lv_aload_n hx hb dX1_restore_34 rfl (lv_at hl 1 rfl) ?_
        refine va_get (D := (dC, dI)) (ci := 1) (v := .ref n_ring) (C := RX1) (T := TX1) (N := 3) hx hb hts hinX1 hown hG.1 hP 0 rfl rfl 0 (by decide) k2 (fun _ h9 => h9) rfl dX1_restore_35 ?_
        refine lv_iload_n hx hb dX1_restore_38 rfl (lv_at hl 0 rfl) ?_
        refine va_aldq hx hb hG.1 hP 1 4 rfl rfl hi dX1_restore_39 ?_
        cases hC : C (Int32.toNatClampNeg t) with
        | none =>
          rw [hC] at hm
          rw [rg_none hC]
          refine lv_ifnonnullN hx hb dX1_restore_40 ?_
          cases hm
          refine lv_iconst (v := (0 : Int32)) hx hb dX1_restore_43 (by decide) ?_
          exact g_iretz hx hb hr hlk hP hD hS (by decide +kernel) dX1_restore_44
        | some c0 =>
          rw [hC] at hm
          obtain ⟨c_s, c_t, c_r, hc, hm⟩ := bnd3_some hm
          rw [rg_some hC]
          refine lv_ifnonnull (tgt := 45) hx hb dX1_restore_40 (by decide) ?_
          have hp0 := List.Perm.append_left [(n_t, .inr (1, [.ref n_ring, .int v_next, .int v_depth])), (n_ring, .inl (k 4, 14, .inr (.inr (.inr (.inr (rg AD C)))))), (n_p1, .inr (0, [.ref n_p1_rows, .int v_p1_size, .int v_p1_stations])), (n_p1_rows, .inl (k 0, 64, .inl r_p1_rows))] (pw_take (k := k) (AD := AD) hC hj)
          replace hP : va_P (dC, dI) vwCl ([(n_t, .inr (1, [.ref n_ring, .int v_next, .int v_depth])), (n_ring, .inl (k 4, 14, .inr (.inr (.inr (.inr (rg AD C)))))), (n_p1, .inr (0, [.ref n_p1_rows, .int v_p1_size, .int v_p1_stations])), (n_p1_rows, .inl (k 0, 64, .inl r_p1_rows)), ((AD (Int32.toNatClampNeg t)).1, .inr (0, [.ref (AD (Int32.toNatClampNeg t)).2, .int c0.1, .int c0.2.1])), ((AD (Int32.toNatClampNeg t)).2, .inl (k 0, 64, .inl c0.2.2))] ++ pw k AD (va_up C (Int32.toNatClampNeg t) none) 14) H := vP_perm hp0 hP
          replace hD : va_D A ([(n_t, .inr (1, [.ref n_ring, .int v_next, .int v_depth])), (n_ring, .inl (k 4, 14, .inr (.inr (.inr (.inr (rg AD C)))))), (n_p1, .inr (0, [.ref n_p1_rows, .int v_p1_size, .int v_p1_stations])), (n_p1_rows, .inl (k 0, 64, .inl r_p1_rows)), ((AD (Int32.toNatClampNeg t)).1, .inr (0, [.ref (AD (Int32.toNatClampNeg t)).2, .int c0.1, .int c0.2.1])), ((AD (Int32.toNatClampNeg t)).2, .inl (k 0, 64, .inl c0.2.2))] ++ pw k AD (va_up C (Int32.toNatClampNeg t) none) 14) := vD_perm hp0 hD
          refine lv_aload_n hx hb dX1_restore_45 rfl (lv_at hl 2 rfl) ?_
          refine lv_aload_n hx hb dX1_restore_46 rfl (lv_at hl 1 rfl) ?_
          refine va_get (D := (dC, dI)) (ci := 1) (v := .ref n_ring) (C := RX1) (T := TX1) (N := 3) hx hb hts hinX1 hown hG.1 hP 0 rfl rfl 0 (by decide) k2 (fun _ h9 => h9) rfl dX1_restore_47 ?_
          refine lv_iload_n hx hb dX1_restore_50 rfl (lv_at hl 0 rfl) ?_
          refine va_aldq hx hb hG.1 hP 1 4 rfl rfl hi dX1_restore_51 ?_
          rw [rg_some hC]
          refine g_callv_x (w2 := [(n_t, .inr (1, [.ref n_ring, .int v_next, .int v_depth])), (n_ring, .inl (k 4, 14, .inr (.inr (.inr (.inr (rg AD C)))))), (n_p1, .inr (0, [.ref n_p1_rows, .int c_s, .int c_t])), (n_p1_rows, .inl (k 0, 64, .inl c_r)), ((AD (Int32.toNatClampNeg t)).1, .inr (0, [.ref (AD (Int32.toNatClampNeg t)).2, .int c0.1, .int c0.2.1])), ((AD (Int32.toNatClampNeg t)).2, .inl (k 0, 64, .inl c0.2.2))]) (va_runV (As := [.ref (AD (Int32.toNatClampNeg t)).1]) (rest := []) ⟨hx, hb, hml, hown, hts⟩ (m_X0_copy l dC dI k F H.size n_p1 (AD (Int32.toNatClampNeg t)).1 n_p1_rows (AD (Int32.toNatClampNeg t)).2 v_p1_size v_p1_stations c0.1 c0.2.1 r_p1_rows c0.2.2 hc) (cwV 1 hts gX1_restore_X0_copy rfl rfl rfl (by decide +kernel) ⟨Nat.le_of_ble_eq_true rfl, Nat.le_of_ble_eq_true rfl⟩) (g_preV hG hP hD hS hA [2, 3, 4, 5] rfl (by decide) (ci := 0) (q0 := 2) rfl rfl) rfl rfl hl.1 rfl (lv_room (Nat.le_of_ble_eq_true rfl)) dX1_restore_52 ⟨Nat.le_of_ble_eq_true rfl, Nat.le_of_ble_eq_true rfl⟩) hP hD hS hA [2, 3, 4, 5] [0, 1] [0, 1, 2, 3, 4, 5] rfl rfl rfl (by decide) (by decide) rfl (by decide) (fun H locs hP hD hS => ?_)
          replace hP : va_P (dC, dI) vwCl ([(n_t, .inr (1, [.ref n_ring, .int v_next, .int v_depth])), (n_ring, .inl (k 4, 14, .inr (.inr (.inr (.inr (rg AD C)))))), (n_p1, .inr (0, [.ref n_p1_rows, .int c_s, .int c_t])), (n_p1_rows, .inl (k 0, 64, .inl c_r)), ((AD (Int32.toNatClampNeg t)).1, .inr (0, [.ref (AD (Int32.toNatClampNeg t)).2, .int c0.1, .int c0.2.1])), ((AD (Int32.toNatClampNeg t)).2, .inl (k 0, 64, .inl c0.2.2))] ++ pw k AD (va_up C (Int32.toNatClampNeg t) none) 14) H := hP
          replace hD : va_D A ([(n_t, .inr (1, [.ref n_ring, .int v_next, .int v_depth])), (n_ring, .inl (k 4, 14, .inr (.inr (.inr (.inr (rg AD C)))))), (n_p1, .inr (0, [.ref n_p1_rows, .int c_s, .int c_t])), (n_p1_rows, .inl (k 0, 64, .inl c_r)), ((AD (Int32.toNatClampNeg t)).1, .inr (0, [.ref (AD (Int32.toNatClampNeg t)).2, .int c0.1, .int c0.2.1])), ((AD (Int32.toNatClampNeg t)).2, .inl (k 0, 64, .inl c0.2.2))] ++ pw k AD (va_up C (Int32.toNatClampNeg t) none) 14) := hD
          refine lv_aload_n hx hb dX1_restore_55 rfl (lv_at hl 1 rfl) ?_
          refine lv_iload_n hx hb dX1_restore_56 rfl (lv_at hl 0 rfl) ?_
          refine va_put (D := (dC, dI)) (ci := 1) (v := .int t) (ty := .int) (C := RX1) (T := TX1) (N := 3) hx hb hts hinX1 tyX1 tyX1_ok nmX1 hown hG.1 hP hD hS 0 rfl rfl 1 (by decide) k0 (fun _ h9 => h9) rfl (by decide +kernel) rfl rfl (Nat.le_of_ble_eq_true rfl) dX1_restore_57 (fun H locs hP hD hS => ?_)
          replace hP : va_P (dC, dI) vwCl ([(n_t, .inr (1, [.ref n_ring, .int t, .int v_depth])), (n_ring, .inl (k 4, 14, .inr (.inr (.inr (.inr (rg AD C)))))), (n_p1, .inr (0, [.ref n_p1_rows, .int c_s, .int c_t])), (n_p1_rows, .inl (k 0, 64, .inl c_r)), ((AD (Int32.toNatClampNeg t)).1, .inr (0, [.ref (AD (Int32.toNatClampNeg t)).2, .int c0.1, .int c0.2.1])), ((AD (Int32.toNatClampNeg t)).2, .inl (k 0, 64, .inl c0.2.2))] ++ pw k AD (va_up C (Int32.toNatClampNeg t) none) 14) H := hP
          replace hD : va_D A ([(n_t, .inr (1, [.ref n_ring, .int t, .int v_depth])), (n_ring, .inl (k 4, 14, .inr (.inr (.inr (.inr (rg AD C)))))), (n_p1, .inr (0, [.ref n_p1_rows, .int c_s, .int c_t])), (n_p1_rows, .inl (k 0, 64, .inl c_r)), ((AD (Int32.toNatClampNeg t)).1, .inr (0, [.ref (AD (Int32.toNatClampNeg t)).2, .int c0.1, .int c0.2.1])), ((AD (Int32.toNatClampNeg t)).2, .inl (k 0, 64, .inl c0.2.2))] ++ pw k AD (va_up C (Int32.toNatClampNeg t) none) 14) := hD
          refine lv_aload_n hx hb dX1_restore_60 rfl (lv_at hl 1 rfl) ?_
          refine lv_dup hx hb dX1_restore_61 rfl ?_
          refine va_get (D := (dC, dI)) (ci := 1) (v := .int v_depth) (C := RX1) (T := TX1) (N := 3) hx hb hts hinX1 hown hG.1 hP 0 rfl rfl 2 (by decide) k1 (fun _ h9 => h9) rfl dX1_restore_62 ?_
          refine lv_iconst (v := (1 : Int32)) hx hb dX1_restore_65 (by decide) ?_
          refine lv_isub hx hb dX1_restore_66 ?_
          refine va_put (D := (dC, dI)) (ci := 1) (v := .int (v_depth - (1 : Int32))) (ty := .int) (C := RX1) (T := TX1) (N := 3) hx hb hts hinX1 tyX1 tyX1_ok nmX1 hown hG.1 hP hD hS 0 rfl rfl 2 (by decide) k1 (fun _ h9 => h9) rfl (by decide +kernel) rfl rfl (Nat.le_of_ble_eq_true rfl) dX1_restore_67 (fun H locs hP hD hS => ?_)
          replace hP : va_P (dC, dI) vwCl ([(n_t, .inr (1, [.ref n_ring, .int t, .int (v_depth - (1 : Int32))])), (n_ring, .inl (k 4, 14, .inr (.inr (.inr (.inr (rg AD C)))))), (n_p1, .inr (0, [.ref n_p1_rows, .int c_s, .int c_t])), (n_p1_rows, .inl (k 0, 64, .inl c_r)), ((AD (Int32.toNatClampNeg t)).1, .inr (0, [.ref (AD (Int32.toNatClampNeg t)).2, .int c0.1, .int c0.2.1])), ((AD (Int32.toNatClampNeg t)).2, .inl (k 0, 64, .inl c0.2.2))] ++ pw k AD (va_up C (Int32.toNatClampNeg t) none) 14) H := hP
          replace hD : va_D A ([(n_t, .inr (1, [.ref n_ring, .int t, .int (v_depth - (1 : Int32))])), (n_ring, .inl (k 4, 14, .inr (.inr (.inr (.inr (rg AD C)))))), (n_p1, .inr (0, [.ref n_p1_rows, .int c_s, .int c_t])), (n_p1_rows, .inl (k 0, 64, .inl c_r)), ((AD (Int32.toNatClampNeg t)).1, .inr (0, [.ref (AD (Int32.toNatClampNeg t)).2, .int c0.1, .int c0.2.1])), ((AD (Int32.toNatClampNeg t)).2, .inl (k 0, 64, .inl c0.2.2))] ++ pw k AD (va_up C (Int32.toNatClampNeg t) none) 14) := hD
          refine lv_iconst (v := (1 : Int32)) hx hb dX1_restore_70 (by decide) ?_
          have hp1 := List.Perm.append_left [(n_t, .inr (1, [.ref n_ring, .int t, .int (v_depth - (1 : Int32))])), (n_ring, .inl (k 4, 14, .inr (.inr (.inr (.inr (rg AD C)))))), (n_p1, .inr (0, [.ref n_p1_rows, .int c_s, .int c_t])), (n_p1_rows, .inl (k 0, 64, .inl c_r))] (pw_take (k := k) (AD := AD) hC hj)
          cases hm
          exact g_iretz hx hb hr hlk (vP_perm hp1.symm hP) (vD_perm hp1.symm hD) hS (by decide +kernel) dX1_restore_71
def rm_X5_keep : Room := { frames := 2, cells := 2, slots := 67, locals := 40 }
def f_X5_keep (F : Nat) (x1 : Int32) (v_filledSlots v_now_size v_now_stations : Int32) (r_now_rows : Nat → Int32) (C : CT) : Option (Int32 × Int32 × CT) := if x1 < (0 : Int32) then some ((-1 : Int32), v_filledSlots, C) else (if x1 < (2 : Int32) then (bnd3 (match C (Int32.toNatClampNeg x1) with | none => f_X0_copy F 0 1 (fun _ => 0) v_now_size v_now_stations r_now_rows | some c => f_X0_copy F c.1 c.2.1 c.2.2 v_now_size v_now_stations r_now_rows) (fun c_s c_t c_r => some (v_now_size, v_filledSlots ||| (shlI (1 : Int32) x1), va_up C (Int32.toNatClampNeg x1) (some (c_s, c_t, c_r))))) else some ((-1 : Int32), v_filledSlots, C))
set_option maxHeartbeats 4000000 in
set_option maxRecDepth 100000 in
theorem k37_X5_keep {p : Program} {l : Launch} {e : Env} {s : State} {m : MethodId} {args : Array Value} {below : List Frame} {meth : Method} {c : Code} {A : Nat → Prop} {Q : State → Prop} {dC : Nat → ClassId} {dI : Nat → Nat → Nat} {k : Nat → ClassId} (hx : p.tables.exec = Jvm.exec) (hb : c.code = cX5_keep) (hml : c.maxLocals = 2) (hts : ∀ w ∈ wsX5_keep, w.before args s = true) (hown : s.vm.findClass RX5 = some m.cls) (hG : gK dC dI k A s) (hA : ∀ q : Nat, s.heap.size ≤ q → A q) (F : Nat) (n_t n_text n_now n_past n_slots n_sightings n_survey n_trial n_now_rows na nb : Nat) (x1 v_filledSlots v_now_size v_now_stations v_s v_t : Int32) (v_seedNow : Int64) (r_now_rows r_a : Nat → Int32) (Rf : Nat → Option Nat) (Y : va_W) (c_s c_t : Int32) (c_r : Nat → Int32) (hi : vp_in x1 2) (hRf : Rf (Int32.toNatClampNeg x1) = some na) (hc : f_X0_copy F v_s v_t r_a v_now_size v_now_stations r_now_rows = some (c_s, c_t, c_r)) (RET : ∀ (H : Heap) (locs : List Loc) (ls : Array Slot), va_P (dC, dI) vwCl ([(n_t, .inr (5, [.ref n_text, .ref n_now, .ref n_past, .ref n_slots, .ref n_sightings, .ref n_survey, .ref n_trial, .int (v_filledSlots ||| (shlI (1 : Int32) x1)), .long v_seedNow])), (n_now, .inr (0, [.ref n_now_rows, .int v_now_size, .int v_now_stations])), (n_now_rows, .inl (k 0, 64, .inl r_now_rows)), (n_slots, .inl (k 4, 2, .inr (.inr (.inr (.inr Rf))))), (na, .inr (0, [.ref nb, .int c_s, .int c_t])), (nb, .inl (k 0, 64, .inl c_r))] ++ Y) H → va_D A ([(n_t, .inr (5, [.ref n_text, .ref n_now, .ref n_past, .ref n_slots, .ref n_sightings, .ref n_survey, .ref n_trial, .int (v_filledSlots ||| (shlI (1 : Int32) x1)), .long v_seedNow])), (n_now, .inr (0, [.ref n_now_rows, .int v_now_size, .int v_now_stations])), (n_now_rows, .inl (k 0, 64, .inl r_now_rows)), (n_slots, .inl (k 4, 2, .inr (.inr (.inr (.inr Rf))))), (na, .inr (0, [.ref nb, .int c_s, .int c_t])), (nb, .inl (k 0, 64, .inl c_r))] ++ Y) → va_S A s.heap H locs → W p l e rm_X5_keep s m args below meth c H locs 2 67 Q (F0 m 69 ls [.int v_now_size])) (H : Heap) (locs : List Loc) (ls : Array Slot) (hl : lv_has ls 2 [(0, .ref n_t), (1, .int x1)]) (hP : va_P (dC, dI) vwCl ([(n_t, .inr (5, [.ref n_text, .ref n_now, .ref n_past, .ref n_slots, .ref n_sightings, .ref n_survey, .ref n_trial, .int v_filledSlots, .long v_seedNow])), (n_now, .inr (0, [.ref n_now_rows, .int v_now_size, .int v_now_stations])), (n_now_rows, .inl (k 0, 64, .inl r_now_rows)), (n_slots, .inl (k 4, 2, .inr (.inr (.inr (.inr Rf))))), (na, .inr (0, [.ref nb, .int v_s, .int v_t])), (nb, .inl (k 0, 64, .inl r_a))] ++ Y) H) (hD : va_D A ([(n_t, .inr (5, [.ref n_text, .ref n_now, .ref n_past, .ref n_slots, .ref n_sightings, .ref n_survey, .ref n_trial, .int v_filledSlots, .long v_seedNow])), (n_now, .inr (0, [.ref n_now_rows, .int v_now_size, .int v_now_stations])), (n_now_rows, .inl (k 0, 64, .inl r_now_rows)), (n_slots, .inl (k 4, 2, .inr (.inr (.inr (.inr Rf))))), (na, .inr (0, [.ref nb, .int v_s, .int v_t])), (nb, .inl (k 0, 64, .inl r_a))] ++ Y)) (hS : va_S A s.heap H locs) : W p l e rm_X5_keep s m args below meth c H locs 2 67 Q (F0 m 37 ls []) := by
  have hinX0 : ∀ w ∈ u_ws RX0 TX0 3, w ∈ wsX5_keep := by decide +kernel
  have hinX5 : ∀ w ∈ u_ws RX5 TX5 9, w ∈ wsX5_keep := by decide +kernel
  have k0 := hts (.fieldLink RX5 30 "CaveLegs" "slots" "[LCaveLegs$Legs;") (by decide +kernel)
  have k1 := hts (.fieldLink RX5 19 "CaveLegs" "now" "LCaveLegs$Legs;") (by decide +kernel)
  have k2 := hts (.fieldLink RX5 70 "CaveLegs" "filledSlots" "I") (by decide +kernel)
  have k3 := hts (.fieldLink RX5 73 "CaveLegs$Legs" "size" "I") (by decide +kernel)
  refine lv_aload_n hx hb dX5_keep_37 rfl (lv_at hl 0 rfl) ?_
  refine va_get (D := (dC, dI)) (ci := 5) (v := .ref n_slots) (C := RX5) (T := TX5) (N := 9) hx hb hts hinX5 hown hG.1 hP 0 rfl rfl 3 (by decide) k0 (fun _ h9 => h9) rfl dX5_keep_38 ?_
  refine lv_iload_n hx hb dX5_keep_41 rfl (lv_at hl 1 rfl) ?_
  refine va_aldq hx hb hG.1 hP 3 4 rfl rfl hi dX5_keep_42 ?_
  rw [hRf]
  show W p l e rm_X5_keep s m args below meth c H locs 2 67 Q (F0 m 43 ls [.ref na])
  refine lv_aload_n hx hb dX5_keep_43 rfl (lv_at hl 0 rfl) ?_
  refine va_get (D := (dC, dI)) (ci := 5) (v := .ref n_now) (C := RX5) (T := TX5) (N := 9) hx hb hts hinX5 hown hG.1 hP 0 rfl rfl 1 (by decide) k1 (fun _ h9 => h9) rfl dX5_keep_44 ?_
  refine g_callv_x (w2 := [(n_t, .inr (5, [.ref n_text, .ref n_now, .ref n_past, .ref n_slots, .ref n_sightings, .ref n_survey, .ref n_trial, .int v_filledSlots, .long v_seedNow])), (n_now, .inr (0, [.ref n_now_rows, .int v_now_size, .int v_now_stations])), (n_now_rows, .inl (k 0, 64, .inl r_now_rows)), (n_slots, .inl (k 4, 2, .inr (.inr (.inr (.inr Rf))))), (na, .inr (0, [.ref nb, .int c_s, .int c_t])), (nb, .inl (k 0, 64, .inl c_r))]) (va_runV (As := [.ref n_now]) (rest := []) ⟨hx, hb, hml, hown, hts⟩ (m_X0_copy l dC dI k F H.size na n_now nb n_now_rows v_s v_t v_now_size v_now_stations r_a r_now_rows hc) (cwV 1 hts gX5_keep_X0_copy rfl rfl rfl (by decide +kernel) ⟨Nat.le_of_ble_eq_true rfl, Nat.le_of_ble_eq_true rfl⟩) (g_preV hG hP hD hS hA [4, 5, 1, 2] rfl (by decide) (ci := 0) (q0 := 4) rfl rfl) rfl rfl hl.1 rfl (lv_room (Nat.le_of_ble_eq_true rfl)) dX5_keep_47 ⟨Nat.le_of_ble_eq_true rfl, Nat.le_of_ble_eq_true rfl⟩) hP hD hS hA [4, 5, 1, 2] [0, 3] [0, 4, 5, 1, 2, 3] rfl rfl rfl (by decide) (by decide) rfl (by decide) (fun H locs hP hD hS => ?_)
  replace hP : va_P (dC, dI) vwCl ([(n_t, .inr (5, [.ref n_text, .ref n_now, .ref n_past, .ref n_slots, .ref n_sightings, .ref n_survey, .ref n_trial, .int v_filledSlots, .long v_seedNow])), (n_now, .inr (0, [.ref n_now_rows, .int v_now_size, .int v_now_stations])), (n_now_rows, .inl (k 0, 64, .inl r_now_rows)), (n_slots, .inl (k 4, 2, .inr (.inr (.inr (.inr Rf))))), (na, .inr (0, [.ref nb, .int c_s, .int c_t])), (nb, .inl (k 0, 64, .inl c_r))] ++ Y) H := hP
  replace hD : va_D A ([(n_t, .inr (5, [.ref n_text, .ref n_now, .ref n_past, .ref n_slots, .ref n_sightings, .ref n_survey, .ref n_trial, .int v_filledSlots, .long v_seedNow])), (n_now, .inr (0, [.ref n_now_rows, .int v_now_size, .int v_now_stations])), (n_now_rows, .inl (k 0, 64, .inl r_now_rows)), (n_slots, .inl (k 4, 2, .inr (.inr (.inr (.inr Rf))))), (na, .inr (0, [.ref nb, .int c_s, .int c_t])), (nb, .inl (k 0, 64, .inl c_r))] ++ Y) := hD
  refine lv_aload_n hx hb dX5_keep_50 rfl (lv_at hl 0 rfl) ?_
  refine lv_dup hx hb dX5_keep_51 rfl ?_
  refine va_get (D := (dC, dI)) (ci := 5) (v := .int v_filledSlots) (C := RX5) (T := TX5) (N := 9) hx hb hts hinX5 hown hG.1 hP 0 rfl rfl 7 (by decide) k2 (fun _ h9 => h9) rfl dX5_keep_52 ?_
  refine lv_iconst (v := (1 : Int32)) hx hb dX5_keep_55 (by decide) ?_
  refine lv_iload_n hx hb dX5_keep_56 rfl (lv_at hl 1 rfl) ?_
  refine g_ishl hx hb dX5_keep_57 ?_
  refine lv_ior hx hb dX5_keep_58 ?_
  refine va_put (D := (dC, dI)) (ci := 5) (v := .int (v_filledSlots ||| (shlI (1 : Int32) x1))) (ty := .int) (C := RX5) (T := TX5) (N := 9) hx hb hts hinX5 tyX5 tyX5_ok nmX5 hown hG.1 hP hD hS 0 rfl rfl 7 (by decide) k2 (fun _ h9 => h9) rfl (by decide +kernel) rfl rfl (Nat.le_of_ble_eq_true rfl) dX5_keep_59 (fun H locs hP hD hS => ?_)
  replace hP : va_P (dC, dI) vwCl ([(n_t, .inr (5, [.ref n_text, .ref n_now, .ref n_past, .ref n_slots, .ref n_sightings, .ref n_survey, .ref n_trial, .int (v_filledSlots ||| (shlI (1 : Int32) x1)), .long v_seedNow])), (n_now, .inr (0, [.ref n_now_rows, .int v_now_size, .int v_now_stations])), (n_now_rows, .inl (k 0, 64, .inl r_now_rows)), (n_slots, .inl (k 4, 2, .inr (.inr (.inr (.inr Rf))))), (na, .inr (0, [.ref nb, .int c_s, .int c_t])), (nb, .inl (k 0, 64, .inl c_r))] ++ Y) H := hP
  replace hD : va_D A ([(n_t, .inr (5, [.ref n_text, .ref n_now, .ref n_past, .ref n_slots, .ref n_sightings, .ref n_survey, .ref n_trial, .int (v_filledSlots ||| (shlI (1 : Int32) x1)), .long v_seedNow])), (n_now, .inr (0, [.ref n_now_rows, .int v_now_size, .int v_now_stations])), (n_now_rows, .inl (k 0, 64, .inl r_now_rows)), (n_slots, .inl (k 4, 2, .inr (.inr (.inr (.inr Rf))))), (na, .inr (0, [.ref nb, .int c_s, .int c_t])), (nb, .inl (k 0, 64, .inl c_r))] ++ Y) := hD
  refine lv_aload_n hx hb dX5_keep_62 rfl (lv_at hl 0 rfl) ?_
  refine va_get (D := (dC, dI)) (ci := 5) (v := .ref n_now) (C := RX5) (T := TX5) (N := 9) hx hb hts hinX5 hown hG.1 hP 0 rfl rfl 1 (by decide) k1 (fun _ h9 => h9) rfl dX5_keep_63 ?_
  refine va_get (D := (dC, dI)) (ci := 0) (v := .int v_now_size) (C := RX0) (T := TX0) (N := 3) hx hb hts hinX0 hown hG.1 hP 1 rfl rfl 1 (by decide) k3 (fun _ h9 => h9) rfl dX5_keep_66 ?_
  exact RET H locs ls hP hD hS
set_option maxHeartbeats 4000000 in
set_option maxRecDepth 100000 in
theorem m_X5_keep (l : Launch) (dC : Nat → ClassId) (dI : Nat → Nat → Nat) (k : Nat → ClassId) (F : Nat) (sz : Nat) (n_t n_text n_now n_past n_slots n_sightings n_survey n_trial n_now_rows : Nat) (AD : Nat → Nat × Nat) (x1 v_filledSlots : Int32) (v_seedNow : Int64) (v_now_size v_now_stations : Int32) (r_now_rows : Nat → Int32) (C : CT) {o_r o_filledSlots : Int32} {o_C : CT} (hm : f_X5_keep F x1 v_filledSlots v_now_size v_now_stations r_now_rows C = some (o_r, o_filledSlots, o_C)) : Met l yX5_keep wsX5_keep rm_X5_keep (gPre dC dI k [.ref n_t, .int x1] sz ([(n_t, .inr (5, [.ref n_text, .ref n_now, .ref n_past, .ref n_slots, .ref n_sightings, .ref n_survey, .ref n_trial, .int v_filledSlots, .long v_seedNow])), (n_now, .inr (0, [.ref n_now_rows, .int v_now_size, .int v_now_stations])), (n_now_rows, .inl (k 0, 64, .inl r_now_rows)), (n_slots, .inl (k 4, 2, .inr (.inr (.inr (.inr (rg AD C))))))] ++ pw k AD C 2)) (gQEI dC dI (va_A ([(n_t, .inr (5, [.ref n_text, .ref n_now, .ref n_past, .ref n_slots, .ref n_sightings, .ref n_survey, .ref n_trial, .int v_filledSlots, .long v_seedNow])), (n_now, .inr (0, [.ref n_now_rows, .int v_now_size, .int v_now_stations])), (n_now_rows, .inl (k 0, 64, .inl r_now_rows)), (n_slots, .inl (k 4, 2, .inr (.inr (.inr (.inr (rg AD C))))))] ++ pw k AD C 2) sz) o_r (fun AD : Nat → Nat × Nat => ([(n_t, .inr (5, [.ref n_text, .ref n_now, .ref n_past, .ref n_slots, .ref n_sightings, .ref n_survey, .ref n_trial, .int o_filledSlots, .long v_seedNow])), (n_now, .inr (0, [.ref n_now_rows, .int v_now_size, .int v_now_stations])), (n_now_rows, .inl (k 0, 64, .inl r_now_rows)), (n_slots, .inl (k 4, 2, .inr (.inr (.inr (.inr (rg AD o_C))))))] ++ pw k AD o_C 2))) 2 67 (va_A ([(n_t, .inr (5, [.ref n_text, .ref n_now, .ref n_past, .ref n_slots, .ref n_sightings, .ref n_survey, .ref n_trial, .int v_filledSlots, .long v_seedNow])), (n_now, .inr (0, [.ref n_now_rows, .int v_now_size, .int v_now_stations])), (n_now_rows, .inl (k 0, 64, .inl r_now_rows)), (n_slots, .inl (k 4, 2, .inr (.inr (.inr (.inr (rg AD C))))))] ++ pw k AD C 2) sz) := by
  refine g_entry (cc := cX5_keep) (maxL := 2) (ret := (some .int)) (lv := [(0, .ref n_t), (1, .int x1)]) (by decide +kernel) rfl (Nat.le_of_ble_eq_true rfl) rfl (fun p e s m below meth c ls hx hb hr hml hts hown hlk hnm hsz hG hA hP hD hS hl => ?_)
  generalize hAe : va_A ([(n_t, .inr (5, [.ref n_text, .ref n_now, .ref n_past, .ref n_slots, .ref n_sightings, .ref n_survey, .ref n_trial, .int v_filledSlots, .long v_seedNow])), (n_now, .inr (0, [.ref n_now_rows, .int v_now_size, .int v_now_stations])), (n_now_rows, .inl (k 0, 64, .inl r_now_rows)), (n_slots, .inl (k 4, 2, .inr (.inr (.inr (.inr (rg AD C))))))] ++ pw k AD C 2) sz = A at hG hA hD hS ⊢
  obtain ⟨H, hHe⟩ : ∃ H, H = s.heap := ⟨_, rfl⟩
  obtain ⟨locs, hle⟩ : ∃ q : List Loc, q = [] := ⟨_, rfl⟩
  have hS : va_S A s.heap H locs := by rw [hHe, hle]; exact hS
  have hP : va_P (dC, dI) vwCl ([(n_t, .inr (5, [.ref n_text, .ref n_now, .ref n_past, .ref n_slots, .ref n_sightings, .ref n_survey, .ref n_trial, .int v_filledSlots, .long v_seedNow])), (n_now, .inr (0, [.ref n_now_rows, .int v_now_size, .int v_now_stations])), (n_now_rows, .inl (k 0, 64, .inl r_now_rows)), (n_slots, .inl (k 4, 2, .inr (.inr (.inr (.inr (rg AD C))))))] ++ pw k AD C 2) H := by rw [hHe]; exact hP
  suffices hgo : W p l e rm_X5_keep s m [.ref n_t, .int x1].toArray below meth c H locs 0 0 (MQ below (gQEI dC dI A o_r (fun AD : Nat → Nat × Nat => ([(n_t, .inr (5, [.ref n_text, .ref n_now, .ref n_past, .ref n_slots, .ref n_sightings, .ref n_survey, .ref n_trial, .int o_filledSlots, .long v_seedNow])), (n_now, .inr (0, [.ref n_now_rows, .int v_now_size, .int v_now_stations])), (n_now_rows, .inl (k 0, 64, .inl r_now_rows)), (n_slots, .inl (k 4, 2, .inr (.inr (.inr (.inr (rg AD o_C))))))] ++ pw k AD o_C 2))) [.ref n_t, .int x1].toArray s 2 67 A) (F0 m 0 ls []) by rw [hHe, hle] at hgo; exact hgo
  clear hHe hle
  have hinX0 : ∀ w ∈ u_ws RX0 TX0 3, w ∈ wsX5_keep := by decide +kernel
  have hinX5 : ∀ w ∈ u_ws RX5 TX5 9, w ∈ wsX5_keep := by decide +kernel
  have k0 := hts (.fieldLink RX5 30 "CaveLegs" "slots" "[LCaveLegs$Legs;") (by decide +kernel)
  have k1 := hts (.classLink RX5 16 RX0) (by decide +kernel)
  have k2 := hts (.instantiable RX0 3) (by decide +kernel)
  have k3 := hts (.initialized RX0) (by decide +kernel)
  have k4 := hts (.instanceMethod yX0_init) (by decide +kernel)
  unfold f_X5_keep at hm
  refine lv_iload_n hx hb dX5_keep_0 rfl (lv_at hl 1 rfl) ?_
  refine lv_if_lt (tgt := 13) hx hb dX5_keep_1 (by decide) (fun c1 => ?_) (fun c1 => ?_)
  · replace hm := ifp c1 hm
    cases hm
    refine W.widen (k := 2) (n := 67) (by decide) (by decide) ?_
    refine lv_iconst (v := (-1 : Int32)) hx hb dX5_keep_13 (by decide) ?_
    exact g_iretE AD hx hb hr hlk hP hD hS dX5_keep_14
  · replace hm := ifn c1 hm
    refine lv_iload_n hx hb dX5_keep_4 rfl (lv_at hl 1 rfl) ?_
    refine lv_aload_n hx hb dX5_keep_5 rfl (lv_at hl 0 rfl) ?_
    refine va_get (D := (dC, dI)) (ci := 5) (v := .ref n_slots) (C := RX5) (T := TX5) (N := 9) hx hb hts hinX5 hown hG.1 hP 0 rfl rfl 3 (by decide) k0 (fun _ h9 => h9) rfl dX5_keep_6 ?_
    refine va_alen (v := (2 : Int32)) hx hb hG.1 hP 3 4 rfl rfl rfl dX5_keep_9 ?_
    refine lv_icmp_lt (tgt := 15) hx hb dX5_keep_10 (by decide) (fun c2 => ?_) (fun c2 => ?_)
    · replace hm := ifp c2 hm
      obtain ⟨c_s, c_t, c_r, hc, hm⟩ := bnd3_some hm
      cases hm
      have hi : vp_in x1 2 := in_of c1 c2 (by decide)
      have hj : Int32.toNatClampNeg x1 < 2 := Nat.not_le.mp (fun q => hi (Or.inr q))
      refine lv_aload_n hx hb dX5_keep_15 rfl (lv_at hl 0 rfl) ?_
      refine va_get (D := (dC, dI)) (ci := 5) (v := .ref n_slots) (C := RX5) (T := TX5) (N := 9) hx hb hts hinX5 hown hG.1 hP 0 rfl rfl 3 (by decide) k0 (fun _ h9 => h9) rfl dX5_keep_16 ?_
      refine lv_iload_n hx hb dX5_keep_19 rfl (lv_at hl 1 rfl) ?_
      refine va_aldq hx hb hG.1 hP 3 4 rfl rfl hi dX5_keep_20 ?_
      cases hC : C (Int32.toNatClampNeg x1) with
      | none =>
        rw [hC] at hc
        rw [rg_none hC]
        refine lv_ifnonnullN hx hb dX5_keep_21 ?_
        refine lv_aload_n hx hb dX5_keep_24 rfl (lv_at hl 0 rfl) ?_
        refine va_get (D := (dC, dI)) (ci := 5) (v := .ref n_slots) (C := RX5) (T := TX5) (N := 9) hx hb hts hinX5 hown hG.1 hP 0 rfl rfl 3 (by decide) k0 (fun _ h9 => h9) rfl dX5_keep_25 ?_
        refine lv_iload_n hx hb dX5_keep_28 rfl (lv_at hl 1 rfl) ?_
        refine va_new (ci := 0) (fs := [.null, .int 0, .int 0]) (C := RX0) (T := TX0) (N := 3) hx hb hts hinX0 tyX0 tyX0_ok hown k1 k2 k3 hG.1 hP hD hS hA rfl (fun j hj => by rcases (show j = 0 ∨ j = 1 ∨ j = 2 by omega) with rfl | rfl | rfl <;> rfl) (Nat.le_of_ble_eq_true rfl) (Nat.le_of_ble_eq_true rfl) dX5_keep_29 (fun nq H hP hD hS => ?_)
        replace hP := va_P.swap hP
        replace hD := va_D.swap hD
        replace hP : va_P (dC, dI) vwCl ([(n_t, .inr (5, [.ref n_text, .ref n_now, .ref n_past, .ref n_slots, .ref n_sightings, .ref n_survey, .ref n_trial, .int v_filledSlots, .long v_seedNow])), (n_now, .inr (0, [.ref n_now_rows, .int v_now_size, .int v_now_stations])), (n_now_rows, .inl (k 0, 64, .inl r_now_rows)), (n_slots, .inl (k 4, 2, .inr (.inr (.inr (.inr (rg AD C)))))), (nq, .inr (0, [.null, .int 0, .int 0]))] ++ pw k AD C 2) H := hP
        replace hD : va_D A ([(n_t, .inr (5, [.ref n_text, .ref n_now, .ref n_past, .ref n_slots, .ref n_sightings, .ref n_survey, .ref n_trial, .int v_filledSlots, .long v_seedNow])), (n_now, .inr (0, [.ref n_now_rows, .int v_now_size, .int v_now_stations])), (n_now_rows, .inl (k 0, 64, .inl r_now_rows)), (n_slots, .inl (k 4, 2, .inr (.inr (.inr (.inr (rg AD C)))))), (nq, .inr (0, [.null, .int 0, .int 0]))] ++ pw k AD C 2) := hD
        refine lv_dup hx hb dX5_keep_32 rfl ?_
        refine g_callE_x (w2 := fun u => [(n_t, .inr (5, [.ref n_text, .ref n_now, .ref n_past, .ref n_slots, .ref n_sightings, .ref n_survey, .ref n_trial, .int v_filledSlots, .long v_seedNow])), (n_now, .inr (0, [.ref n_now_rows, .int v_now_size, .int v_now_stations])), (n_now_rows, .inl (k 0, 64, .inl r_now_rows)), (n_slots, .inl (k 4, 2, .inr (.inr (.inr (.inr (rg AD C)))))), (nq, .inr (0, [.ref (u 0), .int 0, .int 1])), ((u 0), .inl (k 0, 64, .inl (fun _ => 0)))]) (va_runIN (As := []) (rest := [.ref nq, .int x1, .ref n_slots]) ⟨hx, hb, hml, hown, hts⟩ (m_X0_init l dC dI k H.size nq) ⟨va_cnB 0 hts gX5_keep_X0_init_n18 rfl rfl rfl hG.2.1.2.1 k3 (by decide +kernel) ⟨Nat.le_of_ble_eq_true rfl, Nat.le_of_ble_eq_true rfl⟩, rfl, k4⟩ (g_preS hG hP hD hS hA [4] rfl (by decide)) rfl rfl hl.1 rfl (lv_room (Nat.le_of_ble_eq_true rfl)) dX5_keep_33 ⟨Nat.le_of_ble_eq_true rfl, Nat.le_of_ble_eq_true rfl⟩) hP hD hS hA [4] [0, 1, 2, 3] [0, 1, 2, 3, 4, 5] rfl rfl rfl (by decide) (by decide) (fun _ => rfl) (by decide) (fun u H locs hP hD hS => ?_)
        replace hP : va_P (dC, dI) vwCl ([(n_t, .inr (5, [.ref n_text, .ref n_now, .ref n_past, .ref n_slots, .ref n_sightings, .ref n_survey, .ref n_trial, .int v_filledSlots, .long v_seedNow])), (n_now, .inr (0, [.ref n_now_rows, .int v_now_size, .int v_now_stations])), (n_now_rows, .inl (k 0, 64, .inl r_now_rows)), (n_slots, .inl (k 4, 2, .inr (.inr (.inr (.inr (rg AD C)))))), (nq, .inr (0, [.ref (u 0), .int 0, .int 1])), ((u 0), .inl (k 0, 64, .inl (fun _ => 0)))] ++ pw k AD C 2) H := hP
        replace hD : va_D A ([(n_t, .inr (5, [.ref n_text, .ref n_now, .ref n_past, .ref n_slots, .ref n_sightings, .ref n_survey, .ref n_trial, .int v_filledSlots, .long v_seedNow])), (n_now, .inr (0, [.ref n_now_rows, .int v_now_size, .int v_now_stations])), (n_now_rows, .inl (k 0, 64, .inl r_now_rows)), (n_slots, .inl (k 4, 2, .inr (.inr (.inr (.inr (rg AD C)))))), (nq, .inr (0, [.ref (u 0), .int 0, .int 1])), ((u 0), .inl (k 0, 64, .inl (fun _ => 0)))] ++ pw k AD C 2) := hD
        refine va_astq hx hb hG.1 hP hD hS 3 4 4 0 rfl rfl rfl rfl hi dX5_keep_36 (fun H locs hP hD hS => ?_)
        replace hP : va_P (dC, dI) vwCl ([(n_t, .inr (5, [.ref n_text, .ref n_now, .ref n_past, .ref n_slots, .ref n_sightings, .ref n_survey, .ref n_trial, .int v_filledSlots, .long v_seedNow])), (n_now, .inr (0, [.ref n_now_rows, .int v_now_size, .int v_now_stations])), (n_now_rows, .inl (k 0, 64, .inl r_now_rows)), (n_slots, .inl (k 4, 2, .inr (.inr (.inr (.inr (va_up (rg AD C) (Int32.toNatClampNeg x1) (some nq))))))), (nq, .inr (0, [.ref (u 0), .int 0, .int 1])), ((u 0), .inl (k 0, 64, .inl (fun _ => 0)))] ++ pw k AD C 2) H := hP
        replace hD : va_D A ([(n_t, .inr (5, [.ref n_text, .ref n_now, .ref n_past, .ref n_slots, .ref n_sightings, .ref n_survey, .ref n_trial, .int v_filledSlots, .long v_seedNow])), (n_now, .inr (0, [.ref n_now_rows, .int v_now_size, .int v_now_stations])), (n_now_rows, .inl (k 0, 64, .inl r_now_rows)), (n_slots, .inl (k 4, 2, .inr (.inr (.inr (.inr (va_up (rg AD C) (Int32.toNatClampNeg x1) (some nq))))))), (nq, .inr (0, [.ref (u 0), .int 0, .int 1])), ((u 0), .inl (k 0, 64, .inl (fun _ => 0)))] ++ pw k AD C 2) := hD
        refine W.widen (k := 2) (n := 67) (by decide) (by decide) ?_
        refine k37_X5_keep hx hb hml hts hown hG hA F n_t n_text n_now n_past n_slots n_sightings n_survey n_trial n_now_rows nq (u 0) x1 v_filledSlots v_now_size v_now_stations 0 1 v_seedNow r_now_rows (fun _ => 0) (va_up (rg AD C) (Int32.toNatClampNeg x1) (some nq)) (pw k AD C 2) c_s c_t c_r hi (up_same _ _ _) hc (fun H locs ls hP hD hS => ?_) H locs ls hl hP hD hS
        have hpp := List.Perm.append_left [(n_t, .inr (5, [.ref n_text, .ref n_now, .ref n_past, .ref n_slots, .ref n_sightings, .ref n_survey, .ref n_trial, .int (v_filledSlots ||| (shlI (1 : Int32) x1)), .long v_seedNow])), (n_now, .inr (0, [.ref n_now_rows, .int v_now_size, .int v_now_stations])), (n_now_rows, .inl (k 0, 64, .inl r_now_rows)), (n_slots, .inl (k 4, 2, .inr (.inr (.inr (.inr (rg (va_up AD (Int32.toNatClampNeg x1) (nq, u 0)) (va_up C (Int32.toNatClampNeg x1) (some (c_s, c_t, c_r)))))))))] (pw_put (k := k) (AD := AD) (C := C) nq (u 0) (c_s, c_t, c_r) hj)
        rw [up_none hC] at hpp
        rw [rg_new (b := u 0) (c := (c_s, c_t, c_r))] at hP hD
        exact g_iretE (va_up AD (Int32.toNatClampNeg x1) (nq, u 0)) hx hb hr hlk (vP_perm hpp hP) (vD_perm hpp hD) hS dX5_keep_69
      | some c0 =>
        rw [hC] at hc
        rw [rg_some hC]
        refine lv_ifnonnull (tgt := 37) hx hb dX5_keep_21 (by decide) ?_
        refine W.widen (k := 2) (n := 67) (by decide) (by decide) ?_
        have hp0 := List.Perm.append_left [(n_t, .inr (5, [.ref n_text, .ref n_now, .ref n_past, .ref n_slots, .ref n_sightings, .ref n_survey, .ref n_trial, .int v_filledSlots, .long v_seedNow])), (n_now, .inr (0, [.ref n_now_rows, .int v_now_size, .int v_now_stations])), (n_now_rows, .inl (k 0, 64, .inl r_now_rows)), (n_slots, .inl (k 4, 2, .inr (.inr (.inr (.inr (rg AD C))))))] (pw_take (k := k) (AD := AD) hC hj)
        refine k37_X5_keep hx hb hml hts hown hG hA F n_t n_text n_now n_past n_slots n_sightings n_survey n_trial n_now_rows (AD (Int32.toNatClampNeg x1)).1 (AD (Int32.toNatClampNeg x1)).2 x1 v_filledSlots v_now_size v_now_stations c0.1 c0.2.1 v_seedNow r_now_rows c0.2.2 (rg AD C) (pw k AD (va_up C (Int32.toNatClampNeg x1) none) 2) c_s c_t c_r hi (rg_some hC) hc (fun H locs ls hP hD hS => ?_) H locs ls hl (vP_perm hp0 hP) (vD_perm hp0 hD) hS
        have hpp := List.Perm.append_left [(n_t, .inr (5, [.ref n_text, .ref n_now, .ref n_past, .ref n_slots, .ref n_sightings, .ref n_survey, .ref n_trial, .int (v_filledSlots ||| (shlI (1 : Int32) x1)), .long v_seedNow])), (n_now, .inr (0, [.ref n_now_rows, .int v_now_size, .int v_now_stations])), (n_now_rows, .inl (k 0, 64, .inl r_now_rows)), (n_slots, .inl (k 4, 2, .inr (.inr (.inr (.inr (rg (va_up AD (Int32.toNatClampNeg x1) ((AD (Int32.toNatClampNeg x1)).1, (AD (Int32.toNatClampNeg x1)).2)) (va_up C (Int32.toNatClampNeg x1) (some (c_s, c_t, c_r)))))))))] (pw_put (k := k) (AD := AD) (C := C) (AD (Int32.toNatClampNeg x1)).1 (AD (Int32.toNatClampNeg x1)).2 (c_s, c_t, c_r) hj)
        rw [rg_old (c' := (c_s, c_t, c_r)) hC] at hP hD
        exact g_iretE (va_up AD (Int32.toNatClampNeg x1) ((AD (Int32.toNatClampNeg x1)).1, (AD (Int32.toNatClampNeg x1)).2)) hx hb hr hlk (vP_perm hpp hP) (vD_perm hpp hD) hS dX5_keep_69
    · replace hm := ifn c2 hm
      cases hm
      refine W.widen (k := 2) (n := 67) (by decide) (by decide) ?_
      refine lv_iconst (v := (-1 : Int32)) hx hb dX5_keep_13 (by decide) ?_
      exact g_iretE AD hx hb hr hlk hP hD hS dX5_keep_14
def rm_X5_again : Room := { frames := 1, cells := 0, slots := 0, locals := 22 }
def f_X5_again (F : Nat) (x1 : Int32) (v_filledSlots v_now_size v_now_stations v_past_depth : Int32) (r_now_rows : Nat → Int32) (C : CT) : Option (Int32 × Int32 × Int32 × Int32 × (Nat → Int32)) := if x1 < (0 : Int32) then some ((-1 : Int32), v_now_size, v_now_stations, v_past_depth, r_now_rows) else (if x1 < (2 : Int32) then (match C (Int32.toNatClampNeg x1) with | none => some ((-3 : Int32), v_now_size, v_now_stations, v_past_depth, r_now_rows) | some c => bnd1 (f_X5_holds v_filledSlots x1) (fun r1 => if r1 = (0 : Int32) then some ((-3 : Int32), v_now_size, v_now_stations, v_past_depth, r_now_rows) else bnd3 (f_X0_copy F v_now_size v_now_stations r_now_rows c.1 c.2.1 c.2.2) (fun c_s c_t c_r => bnd1 (f_X1_forget v_past_depth) (fun w1 => some (c_s, c_s, c_t, w1, c_r))))) else some ((-1 : Int32), v_now_size, v_now_stations, v_past_depth, r_now_rows))
set_option maxHeartbeats 4000000 in
set_option maxRecDepth 100000 in
theorem m_X5_again (l : Launch) (dC : Nat → ClassId) (dI : Nat → Nat → Nat) (k : Nat → ClassId) (F : Nat) (sz : Nat) (n_t n_text n_now n_past n_slots n_sightings n_survey n_trial n_now_rows n_past_ring : Nat) (AD : Nat → Nat × Nat) (x1 v_filledSlots : Int32) (v_seedNow : Int64) (v_now_size v_now_stations v_past_next v_past_depth : Int32) (r_now_rows : Nat → Int32) (C : CT) {o_r o_size o_stations o_depth : Int32} {o_rows : Nat → Int32} (hm : f_X5_again F x1 v_filledSlots v_now_size v_now_stations v_past_depth r_now_rows C = some (o_r, o_size, o_stations, o_depth, o_rows)) : Met l yX5_again wsX5_again rm_X5_again (gPre dC dI k [.ref n_t, .int x1] sz ([(n_t, .inr (5, [.ref n_text, .ref n_now, .ref n_past, .ref n_slots, .ref n_sightings, .ref n_survey, .ref n_trial, .int v_filledSlots, .long v_seedNow])), (n_now, .inr (0, [.ref n_now_rows, .int v_now_size, .int v_now_stations])), (n_now_rows, .inl (k 0, 64, .inl r_now_rows)), (n_past, .inr (1, [.ref n_past_ring, .int v_past_next, .int v_past_depth])), (n_slots, .inl (k 4, 2, .inr (.inr (.inr (.inr (rg AD C))))))] ++ pw k AD C 2)) (gQI dC dI (va_A ([(n_t, .inr (5, [.ref n_text, .ref n_now, .ref n_past, .ref n_slots, .ref n_sightings, .ref n_survey, .ref n_trial, .int v_filledSlots, .long v_seedNow])), (n_now, .inr (0, [.ref n_now_rows, .int v_now_size, .int v_now_stations])), (n_now_rows, .inl (k 0, 64, .inl r_now_rows)), (n_past, .inr (1, [.ref n_past_ring, .int v_past_next, .int v_past_depth])), (n_slots, .inl (k 4, 2, .inr (.inr (.inr (.inr (rg AD C))))))] ++ pw k AD C 2) sz) o_r ([(n_t, .inr (5, [.ref n_text, .ref n_now, .ref n_past, .ref n_slots, .ref n_sightings, .ref n_survey, .ref n_trial, .int v_filledSlots, .long v_seedNow])), (n_now, .inr (0, [.ref n_now_rows, .int o_size, .int o_stations])), (n_now_rows, .inl (k 0, 64, .inl o_rows)), (n_past, .inr (1, [.ref n_past_ring, .int v_past_next, .int o_depth])), (n_slots, .inl (k 4, 2, .inr (.inr (.inr (.inr (rg AD C))))))] ++ pw k AD C 2)) 0 0 (va_A ([(n_t, .inr (5, [.ref n_text, .ref n_now, .ref n_past, .ref n_slots, .ref n_sightings, .ref n_survey, .ref n_trial, .int v_filledSlots, .long v_seedNow])), (n_now, .inr (0, [.ref n_now_rows, .int v_now_size, .int v_now_stations])), (n_now_rows, .inl (k 0, 64, .inl r_now_rows)), (n_past, .inr (1, [.ref n_past_ring, .int v_past_next, .int v_past_depth])), (n_slots, .inl (k 4, 2, .inr (.inr (.inr (.inr (rg AD C))))))] ++ pw k AD C 2) sz) := by
  refine g_entry (cc := cX5_again) (maxL := 3) (ret := (some .int)) (lv := [(0, .ref n_t), (1, .int x1)]) (by decide +kernel) rfl (Nat.le_of_ble_eq_true rfl) rfl (fun p e s m below meth c ls hx hb hr hml hts hown hlk hnm hsz hG hA hP hD hS hl => ?_)
  generalize hAe : va_A ([(n_t, .inr (5, [.ref n_text, .ref n_now, .ref n_past, .ref n_slots, .ref n_sightings, .ref n_survey, .ref n_trial, .int v_filledSlots, .long v_seedNow])), (n_now, .inr (0, [.ref n_now_rows, .int v_now_size, .int v_now_stations])), (n_now_rows, .inl (k 0, 64, .inl r_now_rows)), (n_past, .inr (1, [.ref n_past_ring, .int v_past_next, .int v_past_depth])), (n_slots, .inl (k 4, 2, .inr (.inr (.inr (.inr (rg AD C))))))] ++ pw k AD C 2) sz = A at hG hA hD hS ⊢
  obtain ⟨H, hHe⟩ : ∃ H, H = s.heap := ⟨_, rfl⟩
  obtain ⟨locs, hle⟩ : ∃ q : List Loc, q = [] := ⟨_, rfl⟩
  have hS : va_S A s.heap H locs := by rw [hHe, hle]; exact hS
  have hP : va_P (dC, dI) vwCl ([(n_t, .inr (5, [.ref n_text, .ref n_now, .ref n_past, .ref n_slots, .ref n_sightings, .ref n_survey, .ref n_trial, .int v_filledSlots, .long v_seedNow])), (n_now, .inr (0, [.ref n_now_rows, .int v_now_size, .int v_now_stations])), (n_now_rows, .inl (k 0, 64, .inl r_now_rows)), (n_past, .inr (1, [.ref n_past_ring, .int v_past_next, .int v_past_depth])), (n_slots, .inl (k 4, 2, .inr (.inr (.inr (.inr (rg AD C))))))] ++ pw k AD C 2) H := by rw [hHe]; exact hP
  suffices hgo : W p l e rm_X5_again s m [.ref n_t, .int x1].toArray below meth c H locs 0 0 (MQ below (gQI dC dI A o_r ([(n_t, .inr (5, [.ref n_text, .ref n_now, .ref n_past, .ref n_slots, .ref n_sightings, .ref n_survey, .ref n_trial, .int v_filledSlots, .long v_seedNow])), (n_now, .inr (0, [.ref n_now_rows, .int o_size, .int o_stations])), (n_now_rows, .inl (k 0, 64, .inl o_rows)), (n_past, .inr (1, [.ref n_past_ring, .int v_past_next, .int o_depth])), (n_slots, .inl (k 4, 2, .inr (.inr (.inr (.inr (rg AD C))))))] ++ pw k AD C 2)) [.ref n_t, .int x1].toArray s 0 0 A) (F0 m 0 ls []) by rw [hHe, hle] at hgo; exact hgo
  clear hHe hle
  have hinX0 : ∀ w ∈ u_ws RX0 TX0 3, w ∈ wsX5_again := by decide +kernel
  have hinX5 : ∀ w ∈ u_ws RX5 TX5 9, w ∈ wsX5_again := by decide +kernel
  have k0 := hts (.fieldLink RX5 30 "CaveLegs" "slots" "[LCaveLegs$Legs;") (by decide +kernel)
  have k1 := hts (.fieldLink RX5 70 "CaveLegs" "filledSlots" "I") (by decide +kernel)
  have k2 := hts (.fieldLink RX5 19 "CaveLegs" "now" "LCaveLegs$Legs;") (by decide +kernel)
  have k3 := hts (.fieldLink RX5 26 "CaveLegs" "past" "LCaveLegs$Past;") (by decide +kernel)
  have k4 := hts (.fieldLink RX5 73 "CaveLegs$Legs" "size" "I") (by decide +kernel)
  unfold f_X5_again at hm
  refine lv_iload_n hx hb dX5_again_0 rfl (lv_at hl 1 rfl) ?_
  refine lv_if_lt (tgt := 13) hx hb dX5_again_1 (by decide) (fun c1 => ?_) (fun c1 => ?_)
  · replace hm := ifp c1 hm
    cases hm
    refine lv_iconst (v := (-1 : Int32)) hx hb dX5_again_13 (by decide) ?_
    exact g_ireti hx hb hr hlk hP hD hS dX5_again_14
  · replace hm := ifn c1 hm
    refine lv_iload_n hx hb dX5_again_4 rfl (lv_at hl 1 rfl) ?_
    refine lv_aload_n hx hb dX5_again_5 rfl (lv_at hl 0 rfl) ?_
    refine va_get (D := (dC, dI)) (ci := 5) (v := .ref n_slots) (C := RX5) (T := TX5) (N := 9) hx hb hts hinX5 hown hG.1 hP 0 rfl rfl 3 (by decide) k0 (fun _ h9 => h9) rfl dX5_again_6 ?_
    refine va_alen (v := (2 : Int32)) hx hb hG.1 hP 4 4 rfl rfl rfl dX5_again_9 ?_
    refine lv_icmp_lt (tgt := 15) hx hb dX5_again_10 (by decide) (fun c2 => ?_) (fun c2 => ?_)
    · replace hm := ifp c2 hm
      have hi : vp_in x1 2 := in_of c1 c2 (by decide)
      have hj : Int32.toNatClampNeg x1 < 2 := Nat.not_le.mp (fun q => hi (Or.inr q))
      refine lv_aload_n hx hb dX5_again_15 rfl (lv_at hl 0 rfl) ?_
      refine va_get (D := (dC, dI)) (ci := 5) (v := .ref n_slots) (C := RX5) (T := TX5) (N := 9) hx hb hts hinX5 hown hG.1 hP 0 rfl rfl 3 (by decide) k0 (fun _ h9 => h9) rfl dX5_again_16 ?_
      refine lv_iload_n hx hb dX5_again_19 rfl (lv_at hl 1 rfl) ?_
      refine va_aldq hx hb hG.1 hP 4 4 rfl rfl hi dX5_again_20 ?_
      cases hC : C (Int32.toNatClampNeg x1) with
      | none =>
        rw [hC] at hm
        rw [rg_none hC]
        refine lv_astore_nN (lv' := [(2, .null), (0, .ref n_t), (1, .int x1)]) hx hb dX5_again_21 rfl hl (by decide) rfl (fun ls hl => ?_)
        refine lv_aload_nN hx hb dX5_again_22 rfl (lv_at hl 0 rfl) ?_
        refine lv_ifnullN (tgt := 37) hx hb dX5_again_23 (by decide) ?_
        cases hm
        refine lv_bipush (v := (-3 : Int32)) hx hb dX5_again_37 (by decide) ?_
        exact g_ireti hx hb hr hlk hP hD hS dX5_again_39
      | some c0 =>
        rw [hC] at hm
        rw [rg_some hC]
        refine lv_astore_n (lv' := [(2, .ref (AD (Int32.toNatClampNeg x1)).1), (0, .ref n_t), (1, .int x1)]) hx hb dX5_again_21 rfl hl (by decide) rfl (fun ls hl => ?_)
        refine lv_aload_n hx hb dX5_again_22 rfl (lv_at hl 0 rfl) ?_
        refine lv_ifnull hx hb dX5_again_23 ?_
        refine lv_aload_n hx hb dX5_again_26 rfl (lv_at hl 1 rfl) ?_
        refine va_get (D := (dC, dI)) (ci := 5) (v := .int v_filledSlots) (C := RX5) (T := TX5) (N := 9) hx hb hts hinX5 hown hG.1 hP 0 rfl rfl 7 (by decide) k1 (fun _ h9 => h9) rfl dX5_again_27 ?_
        refine lv_iload_n hx hb dX5_again_30 rfl (lv_at hl 2 rfl) ?_
        obtain ⟨r1, e1, hm⟩ := bnd1_some hm
        refine g_calli_x (w2 := [(n_t, .inr (5, [.ref n_text, .ref n_now, .ref n_past, .ref n_slots, .ref n_sightings, .ref n_survey, .ref n_trial, .int v_filledSlots, .long v_seedNow])), (n_now, .inr (0, [.ref n_now_rows, .int v_now_size, .int v_now_stations])), (n_now_rows, .inl (k 0, 64, .inl r_now_rows)), (n_past, .inr (1, [.ref n_past_ring, .int v_past_next, .int v_past_depth])), (n_slots, .inl (k 4, 2, .inr (.inr (.inr (.inr (rg AD C))))))]) (va_runS (As := [.int v_filledSlots, .int x1]) (rest := []) ⟨hx, hb, hml, hown, hts⟩ (m_X5_holds l dC dI k H.size v_filledSlots x1 e1) (va_cwS 2 hts gX5_again_X5_holds rfl rfl rfl (by decide +kernel) ⟨Nat.le_of_ble_eq_true rfl, Nat.le_of_ble_eq_true rfl⟩) (g_preS hG hP hD hS hA [] rfl (by decide)) rfl rfl hl.1 rfl (lv_room (Nat.le_of_ble_eq_true rfl)) dX5_again_31 ⟨Nat.le_of_ble_eq_true rfl, Nat.le_of_ble_eq_true rfl⟩) hP hD hS hA [] [0, 1, 2, 3, 4] [0, 1, 2, 3, 4] rfl rfl rfl (by decide) (by decide) rfl (by decide) (fun H locs hP hD hS => ?_)
        refine lv_if_ne (tgt := 40) hx hb dX5_again_34 (by decide) (fun c3 => ?_) (fun c3 => ?_)
        · replace hm := ifn c3 hm
          obtain ⟨c_s, c_t, c_r, hc, hm⟩ := bnd3_some hm
          obtain ⟨w1, e2, hm⟩ := bnd1_some hm
          have hp0 := List.Perm.append_left [(n_t, .inr (5, [.ref n_text, .ref n_now, .ref n_past, .ref n_slots, .ref n_sightings, .ref n_survey, .ref n_trial, .int v_filledSlots, .long v_seedNow])), (n_now, .inr (0, [.ref n_now_rows, .int v_now_size, .int v_now_stations])), (n_now_rows, .inl (k 0, 64, .inl r_now_rows)), (n_past, .inr (1, [.ref n_past_ring, .int v_past_next, .int v_past_depth])), (n_slots, .inl (k 4, 2, .inr (.inr (.inr (.inr (rg AD C))))))] (pw_take (k := k) (AD := AD) hC hj)
          replace hP : va_P (dC, dI) vwCl ([(n_t, .inr (5, [.ref n_text, .ref n_now, .ref n_past, .ref n_slots, .ref n_sightings, .ref n_survey, .ref n_trial, .int v_filledSlots, .long v_seedNow])), (n_now, .inr (0, [.ref n_now_rows, .int v_now_size, .int v_now_stations])), (n_now_rows, .inl (k 0, 64, .inl r_now_rows)), (n_past, .inr (1, [.ref n_past_ring, .int v_past_next, .int v_past_depth])), (n_slots, .inl (k 4, 2, .inr (.inr (.inr (.inr (rg AD C)))))), ((AD (Int32.toNatClampNeg x1)).1, .inr (0, [.ref (AD (Int32.toNatClampNeg x1)).2, .int c0.1, .int c0.2.1])), ((AD (Int32.toNatClampNeg x1)).2, .inl (k 0, 64, .inl c0.2.2))] ++ pw k AD (va_up C (Int32.toNatClampNeg x1) none) 2) H := vP_perm hp0 hP
          replace hD : va_D A ([(n_t, .inr (5, [.ref n_text, .ref n_now, .ref n_past, .ref n_slots, .ref n_sightings, .ref n_survey, .ref n_trial, .int v_filledSlots, .long v_seedNow])), (n_now, .inr (0, [.ref n_now_rows, .int v_now_size, .int v_now_stations])), (n_now_rows, .inl (k 0, 64, .inl r_now_rows)), (n_past, .inr (1, [.ref n_past_ring, .int v_past_next, .int v_past_depth])), (n_slots, .inl (k 4, 2, .inr (.inr (.inr (.inr (rg AD C)))))), ((AD (Int32.toNatClampNeg x1)).1, .inr (0, [.ref (AD (Int32.toNatClampNeg x1)).2, .int c0.1, .int c0.2.1])), ((AD (Int32.toNatClampNeg x1)).2, .inl (k 0, 64, .inl c0.2.2))] ++ pw k AD (va_up C (Int32.toNatClampNeg x1) none) 2) := vD_perm hp0 hD
          refine lv_aload_n hx hb dX5_again_40 rfl (lv_at hl 1 rfl) ?_
          refine va_get (D := (dC, dI)) (ci := 5) (v := .ref n_now) (C := RX5) (T := TX5) (N := 9) hx hb hts hinX5 hown hG.1 hP 0 rfl rfl 1 (by decide) k2 (fun _ h9 => h9) rfl dX5_again_41 ?_
          refine lv_aload_n hx hb dX5_again_44 rfl (lv_at hl 0 rfl) ?_
          refine g_callv_x (w2 := [(n_t, .inr (5, [.ref n_text, .ref n_now, .ref n_past, .ref n_slots, .ref n_sightings, .ref n_survey, .ref n_trial, .int v_filledSlots, .long v_seedNow])), (n_now, .inr (0, [.ref n_now_rows, .int c_s, .int c_t])), (n_now_rows, .inl (k 0, 64, .inl c_r)), (n_past, .inr (1, [.ref n_past_ring, .int v_past_next, .int v_past_depth])), (n_slots, .inl (k 4, 2, .inr (.inr (.inr (.inr (rg AD C)))))), ((AD (Int32.toNatClampNeg x1)).1, .inr (0, [.ref (AD (Int32.toNatClampNeg x1)).2, .int c0.1, .int c0.2.1])), ((AD (Int32.toNatClampNeg x1)).2, .inl (k 0, 64, .inl c0.2.2))]) (va_runV (As := [.ref (AD (Int32.toNatClampNeg x1)).1]) (rest := []) ⟨hx, hb, hml, hown, hts⟩ (m_X0_copy l dC dI k F H.size n_now (AD (Int32.toNatClampNeg x1)).1 n_now_rows (AD (Int32.toNatClampNeg x1)).2 v_now_size v_now_stations c0.1 c0.2.1 r_now_rows c0.2.2 hc) (cwV 1 hts gX5_again_X0_copy rfl rfl rfl (by decide +kernel) ⟨Nat.le_of_ble_eq_true rfl, Nat.le_of_ble_eq_true rfl⟩) (g_preV hG hP hD hS hA [1, 2, 5, 6] rfl (by decide) (ci := 0) (q0 := 1) rfl rfl) rfl rfl hl.1 rfl (lv_room (Nat.le_of_ble_eq_true rfl)) dX5_again_45 ⟨Nat.le_of_ble_eq_true rfl, Nat.le_of_ble_eq_true rfl⟩) hP hD hS hA [1, 2, 5, 6] [0, 3, 4] [0, 3, 4, 1, 2, 5, 6] rfl rfl rfl (by decide) (by decide) rfl (by decide) (fun H locs hP hD hS => ?_)
          replace hP : va_P (dC, dI) vwCl ([(n_t, .inr (5, [.ref n_text, .ref n_now, .ref n_past, .ref n_slots, .ref n_sightings, .ref n_survey, .ref n_trial, .int v_filledSlots, .long v_seedNow])), (n_now, .inr (0, [.ref n_now_rows, .int c_s, .int c_t])), (n_now_rows, .inl (k 0, 64, .inl c_r)), (n_past, .inr (1, [.ref n_past_ring, .int v_past_next, .int v_past_depth])), (n_slots, .inl (k 4, 2, .inr (.inr (.inr (.inr (rg AD C)))))), ((AD (Int32.toNatClampNeg x1)).1, .inr (0, [.ref (AD (Int32.toNatClampNeg x1)).2, .int c0.1, .int c0.2.1])), ((AD (Int32.toNatClampNeg x1)).2, .inl (k 0, 64, .inl c0.2.2))] ++ pw k AD (va_up C (Int32.toNatClampNeg x1) none) 2) H := hP
          replace hD : va_D A ([(n_t, .inr (5, [.ref n_text, .ref n_now, .ref n_past, .ref n_slots, .ref n_sightings, .ref n_survey, .ref n_trial, .int v_filledSlots, .long v_seedNow])), (n_now, .inr (0, [.ref n_now_rows, .int c_s, .int c_t])), (n_now_rows, .inl (k 0, 64, .inl c_r)), (n_past, .inr (1, [.ref n_past_ring, .int v_past_next, .int v_past_depth])), (n_slots, .inl (k 4, 2, .inr (.inr (.inr (.inr (rg AD C)))))), ((AD (Int32.toNatClampNeg x1)).1, .inr (0, [.ref (AD (Int32.toNatClampNeg x1)).2, .int c0.1, .int c0.2.1])), ((AD (Int32.toNatClampNeg x1)).2, .inl (k 0, 64, .inl c0.2.2))] ++ pw k AD (va_up C (Int32.toNatClampNeg x1) none) 2) := hD
          refine lv_aload_n hx hb dX5_again_48 rfl (lv_at hl 1 rfl) ?_
          refine va_get (D := (dC, dI)) (ci := 5) (v := .ref n_past) (C := RX5) (T := TX5) (N := 9) hx hb hts hinX5 hown hG.1 hP 0 rfl rfl 2 (by decide) k3 (fun _ h9 => h9) rfl dX5_again_49 ?_
          refine g_callv_x (w2 := [(n_t, .inr (5, [.ref n_text, .ref n_now, .ref n_past, .ref n_slots, .ref n_sightings, .ref n_survey, .ref n_trial, .int v_filledSlots, .long v_seedNow])), (n_now, .inr (0, [.ref n_now_rows, .int c_s, .int c_t])), (n_now_rows, .inl (k 0, 64, .inl c_r)), (n_past, .inr (1, [.ref n_past_ring, .int v_past_next, .int w1])), (n_slots, .inl (k 4, 2, .inr (.inr (.inr (.inr (rg AD C)))))), ((AD (Int32.toNatClampNeg x1)).1, .inr (0, [.ref (AD (Int32.toNatClampNeg x1)).2, .int c0.1, .int c0.2.1])), ((AD (Int32.toNatClampNeg x1)).2, .inl (k 0, 64, .inl c0.2.2))]) (va_runV (As := []) (rest := []) ⟨hx, hb, hml, hown, hts⟩ (m_X1_forget l dC dI k H.size n_past n_past_ring v_past_next v_past_depth e2) (cwV 0 hts gX5_again_X1_forget rfl rfl rfl (by decide +kernel) ⟨Nat.le_of_ble_eq_true rfl, Nat.le_of_ble_eq_true rfl⟩) (g_preV hG hP hD hS hA [3] rfl (by decide) (ci := 1) (q0 := 3) rfl rfl) rfl rfl hl.1 rfl (lv_room (Nat.le_of_ble_eq_true rfl)) dX5_again_52 ⟨Nat.le_of_ble_eq_true rfl, Nat.le_of_ble_eq_true rfl⟩) hP hD hS hA [3] [0, 1, 2, 4, 5, 6] [0, 1, 2, 6, 3, 4, 5] rfl rfl rfl (by decide) (by decide) rfl (by decide) (fun H locs hP hD hS => ?_)
          replace hP : va_P (dC, dI) vwCl ([(n_t, .inr (5, [.ref n_text, .ref n_now, .ref n_past, .ref n_slots, .ref n_sightings, .ref n_survey, .ref n_trial, .int v_filledSlots, .long v_seedNow])), (n_now, .inr (0, [.ref n_now_rows, .int c_s, .int c_t])), (n_now_rows, .inl (k 0, 64, .inl c_r)), (n_past, .inr (1, [.ref n_past_ring, .int v_past_next, .int w1])), (n_slots, .inl (k 4, 2, .inr (.inr (.inr (.inr (rg AD C)))))), ((AD (Int32.toNatClampNeg x1)).1, .inr (0, [.ref (AD (Int32.toNatClampNeg x1)).2, .int c0.1, .int c0.2.1])), ((AD (Int32.toNatClampNeg x1)).2, .inl (k 0, 64, .inl c0.2.2))] ++ pw k AD (va_up C (Int32.toNatClampNeg x1) none) 2) H := hP
          replace hD : va_D A ([(n_t, .inr (5, [.ref n_text, .ref n_now, .ref n_past, .ref n_slots, .ref n_sightings, .ref n_survey, .ref n_trial, .int v_filledSlots, .long v_seedNow])), (n_now, .inr (0, [.ref n_now_rows, .int c_s, .int c_t])), (n_now_rows, .inl (k 0, 64, .inl c_r)), (n_past, .inr (1, [.ref n_past_ring, .int v_past_next, .int w1])), (n_slots, .inl (k 4, 2, .inr (.inr (.inr (.inr (rg AD C)))))), ((AD (Int32.toNatClampNeg x1)).1, .inr (0, [.ref (AD (Int32.toNatClampNeg x1)).2, .int c0.1, .int c0.2.1])), ((AD (Int32.toNatClampNeg x1)).2, .inl (k 0, 64, .inl c0.2.2))] ++ pw k AD (va_up C (Int32.toNatClampNeg x1) none) 2) := hD
          refine lv_aload_n hx hb dX5_again_55 rfl (lv_at hl 1 rfl) ?_
          refine va_get (D := (dC, dI)) (ci := 5) (v := .ref n_now) (C := RX5) (T := TX5) (N := 9) hx hb hts hinX5 hown hG.1 hP 0 rfl rfl 1 (by decide) k2 (fun _ h9 => h9) rfl dX5_again_56 ?_
          refine va_get (D := (dC, dI)) (ci := 0) (v := .int c_s) (C := RX0) (T := TX0) (N := 3) hx hb hts hinX0 hown hG.1 hP 1 rfl rfl 1 (by decide) k4 (fun _ h9 => h9) rfl dX5_again_59 ?_
          have hp1 := List.Perm.append_left [(n_t, .inr (5, [.ref n_text, .ref n_now, .ref n_past, .ref n_slots, .ref n_sightings, .ref n_survey, .ref n_trial, .int v_filledSlots, .long v_seedNow])), (n_now, .inr (0, [.ref n_now_rows, .int c_s, .int c_t])), (n_now_rows, .inl (k 0, 64, .inl c_r)), (n_past, .inr (1, [.ref n_past_ring, .int v_past_next, .int w1])), (n_slots, .inl (k 4, 2, .inr (.inr (.inr (.inr (rg AD C))))))] (pw_take (k := k) (AD := AD) hC hj)
          cases hm
          exact g_ireti hx hb hr hlk (vP_perm hp1.symm hP) (vD_perm hp1.symm hD) hS dX5_again_62
        · replace hm := ifp c3 hm
          cases hm
          refine lv_bipush (v := (-3 : Int32)) hx hb dX5_again_37 (by decide) ?_
          exact g_ireti hx hb hr hlk hP hD hS dX5_again_39
    · replace hm := ifn c2 hm
      cases hm
      refine lv_iconst (v := (-1 : Int32)) hx hb dX5_again_13 (by decide) ?_
      exact g_ireti hx hb hr hlk hP hD hS dX5_again_14
