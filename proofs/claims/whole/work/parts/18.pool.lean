-- objects of a kind in a ring: what they hold (size, stations, rows), their addresses, their cells
abbrev CT : Type := Nat → Option (Int32 × Int32 × (Nat → Int32))
def pc1 (k : Nat → ClassId) (AD : Nat → Nat × Nat) (C : CT) (j : Nat) : va_W := match C j with
  | none => []
  | some c => wd_04c632 k (AD j).1 (AD j).2 c.1 c.2.1 c.2.2
def pw (k : Nat → ClassId) (AD : Nat → Nat × Nat) (C : CT) : Nat → va_W
  | 0 => []
  | n + 1 => pw k AD C n ++ pc1 k AD C n
def rg (AD : Nat → Nat × Nat) (C : CT) : Nat → Option Nat := fun j => match C j with
  | none => none
  | some _ => some (AD j).1
theorem pc1_some {k : Nat → ClassId} {AD : Nat → Nat × Nat} {C : CT} {j : Nat} {c : Int32 × Int32 × (Nat → Int32)} (h : C j = some c) : pc1 k AD C j = wd_04c632 k (AD j).1 (AD j).2 c.1 c.2.1 c.2.2 := by unfold pc1; rw [h]
theorem pc1_none {k : Nat → ClassId} {AD : Nat → Nat × Nat} {C : CT} {j : Nat} (h : C j = none) : pc1 k AD C j = [] := by unfold pc1; rw [h]
theorem rg_some {AD : Nat → Nat × Nat} {C : CT} {j : Nat} {c : Int32 × Int32 × (Nat → Int32)} (h : C j = some c) : rg AD C j = some (AD j).1 := by unfold rg; rw [h]
theorem rg_none {AD : Nat → Nat × Nat} {C : CT} {j : Nat} (h : C j = none) : rg AD C j = none := by unfold rg; rw [h]
theorem up_same {α : Type} (f : Nat → α) (k : Nat) (v : α) : va_up f k v k = v := if_pos rfl
theorem up_other {α : Type} (f : Nat → α) {k j : Nat} (v : α) (h : j ≠ k) : va_up f k v j = f j := if_neg h
theorem pw_congr {k : Nat → ClassId} {AD AD' : Nat → Nat × Nat} {C C' : CT} : ∀ {n : Nat}, (∀ j, j < n → pc1 k AD C j = pc1 k AD' C' j) → pw k AD C n = pw k AD' C' n
  | 0, _ => rfl
  | n + 1, h => by
    show pw k AD C n ++ pc1 k AD C n = pw k AD' C' n ++ pc1 k AD' C' n
    rw [pw_congr (fun j hj => h j (Nat.lt_succ_of_lt hj)), h n (Nat.lt_succ_self n)]
theorem pw_take {k : Nat → ClassId} {AD : Nat → Nat × Nat} {C : CT} {j : Nat} {c : Int32 × Int32 × (Nat → Int32)} (hc : C j = some c) : ∀ {n : Nat}, j < n → (pw k AD C n).Perm (wd_04c632 k (AD j).1 (AD j).2 c.1 c.2.1 c.2.2 ++ pw k AD (va_up C j none) n)
  | 0, h => absurd h (Nat.not_lt_zero j)
  | n + 1, h => by
    show (pw k AD C n ++ pc1 k AD C n).Perm (wd_04c632 k (AD j).1 (AD j).2 c.1 c.2.1 c.2.2 ++ (pw k AD (va_up C j none) n ++ pc1 k AD (va_up C j none) n))
    by_cases e : j = n
    · subst e
      rw [pc1_some hc, pc1_none (up_same C j none), List.append_nil]
      have e2 : pw k AD C j = pw k AD (va_up C j none) j := pw_congr (fun i hi => by unfold pc1; rw [up_other C none (Nat.ne_of_lt hi)])
      rw [e2]
      exact List.perm_append_comm
    · have hj : j < n := by omega
      have e1 : pc1 k AD (va_up C j none) n = pc1 k AD C n := by unfold pc1; rw [up_other C none (Ne.symm e)]
      rw [e1, ← List.append_assoc]
      exact List.Perm.append_right _ (pw_take hc hj)
theorem up_up {α : Type} (f : Nat → α) (k : Nat) (v w : α) : va_up (va_up f k v) k w = va_up f k w := by
  funext j
  unfold va_up
  by_cases h : j = k <;> simp [h]
theorem pw_put {k : Nat → ClassId} {AD : Nat → Nat × Nat} {C : CT} {j n : Nat} (a b : Nat) (c : Int32 × Int32 × (Nat → Int32)) (hj : j < n) : (wd_04c632 k a b c.1 c.2.1 c.2.2 ++ pw k AD (va_up C j none) n).Perm (pw k (va_up AD j (a, b)) (va_up C j (some c)) n) := by
  have h := pw_take (k := k) (AD := va_up AD j (a, b)) (C := va_up C j (some c)) (up_same C j (some c)) hj
  rw [up_same, up_up] at h
  have e : pw k (va_up AD j (a, b)) (va_up C j none) n = pw k AD (va_up C j none) n := pw_congr (fun i _ => by
    by_cases q : i = j
    · subst q; rw [pc1_none (up_same C i none), pc1_none (up_same C i none)]
    · unfold pc1; rw [up_other AD _ q])
  rw [e] at h
  exact h.symm
theorem up_none {C : CT} {j : Nat} (h : C j = none) : va_up C j none = C := by
  funext i
  unfold va_up
  by_cases e : i = j
  · rw [if_pos e, e, h]
  · rw [if_neg e]
theorem rg_new {AD : Nat → Nat × Nat} {C : CT} {j a b : Nat} {c : Int32 × Int32 × (Nat → Int32)} : va_up (rg AD C) j (some a) = rg (va_up AD j (a, b)) (va_up C j (some c)) := by
  funext i
  by_cases e : i = j
  · subst e; rw [up_same, rg_some (up_same C i (some c)), up_same]
  · rw [up_other _ _ e]; unfold rg; rw [up_other C _ e, up_other AD _ e]
theorem rg_old {AD : Nat → Nat × Nat} {C : CT} {j : Nat} {c c' : Int32 × Int32 × (Nat → Int32)} (h : C j = some c) : rg AD C = rg (va_up AD j ((AD j).1, (AD j).2)) (va_up C j (some c')) := by
  funext i
  by_cases e : i = j
  · subst e; rw [rg_some h, rg_some (up_same C i (some c')), up_same]
  · unfold rg; rw [up_other C _ e, up_other AD _ e]
theorem vP_perm {D : va_G} {cl : List vw_C} {ws ws' : va_W} {H : Heap} (hp : ws.Perm ws') (h : va_P D cl ws H) : va_P D cl ws' H := fun k q hk => by
  obtain ⟨i, hi⟩ := List.mem_iff_getElem?.mp (hp.mem_iff.mpr (List.mem_of_getElem? hk))
  exact h i q hi
theorem vD_nd {A : Nat → Prop} {ws : va_W} (h : va_D A ws) : (ws.map Prod.fst).Nodup := by
  rw [List.Nodup, List.pairwise_iff_getElem]
  intro i j hi hj hij e
  rw [List.length_map] at hi hj
  rw [List.getElem_map, List.getElem_map] at e
  have := h.1 i j ws[i] ws[j] (List.getElem?_eq_getElem hi) (List.getElem?_eq_getElem hj) e
  omega
theorem vD_of {A : Nat → Prop} {ws : va_W} (h : (ws.map Prod.fst).Nodup) (hA : ∀ q ∈ ws, A q.1) : va_D A ws := by
  refine ⟨fun i j p q hi hj e => ?_, fun k q hk => hA q (List.mem_of_getElem? hk)⟩
  rw [List.Nodup, List.pairwise_iff_getElem] at h
  obtain ⟨hi1, hi2⟩ := List.getElem?_eq_some_iff.mp hi
  obtain ⟨hj1, hj2⟩ := List.getElem?_eq_some_iff.mp hj
  rcases Nat.lt_trichotomy i j with q1 | q1 | q1
  · have := h i j (by rw [List.length_map]; exact hi1) (by rw [List.length_map]; exact hj1) q1
    rw [List.getElem_map, List.getElem_map, hi2, hj2] at this
    exact absurd e this
  · exact q1
  · have := h j i (by rw [List.length_map]; exact hj1) (by rw [List.length_map]; exact hi1) q1
    rw [List.getElem_map, List.getElem_map, hi2, hj2] at this
    exact absurd e.symm this
theorem vD_perm {A : Nat → Prop} {ws ws' : va_W} (hp : ws.Perm ws') (h : va_D A ws) : va_D A ws' :=
  vD_of ((hp.map Prod.fst).nodup_iff.mp (vD_nd h)) (fun q hq => by
    obtain ⟨i, hi⟩ := List.mem_iff_getElem?.mp (hp.mem_iff.mpr hq)
    exact h.2 i q hi)
section GP
variable {dC : Nat → ClassId} {dI : Nat → Nat → Nat} {k : Nat → ClassId}
variable {p : Program} {l : Launch} {e : Env} {R : Room} {s : State} {m : MethodId} {args : Array Value} {below : List Frame} {meth : Method} {c : Code} {H : Heap} {locs : List Loc} {cells slots : Nat} {Q : State → Prop}
variable {cc : ByteArray} {pc : Nat} {ls : Array Slot} {rest : List Value} {A : Nat → Prop} {ws X : va_W}
theorem g_callv_x {wc w1 w2 : va_W} {mc ms : Nat} {a : Array Value} {st0 : List Value} (hr : va_Run p l e R s m args below meth c H locs cells slots mc ms (F0 m pc ls st0) rest (gQV dC dI (va_A wc H.size) w1 a) (va_A wc H.size)) (hP : va_P (dC, dI) vwCl (ws ++ X) H) (hD : va_D A (ws ++ X)) (hS : va_S A s.heap H locs) (hA : ∀ q, s.heap.size ≤ q → A q)
    (isC isR pm : List Nat) (hC : isC.map (fun i => ws[i]?) = wc.map some) (hCx : isC.map (fun i => (ws ++ X)[i]?) = wc.map some) (hR : isR.map (fun i => ws[i]?) = (isR.filterMap (fun i => ws[i]?)).map some) (hn : va_nd isR = true) (hdis : ∀ i ∈ isR, i ∉ isC) (hpm : pm.map (fun i => (isR.filterMap (fun i => ws[i]?) ++ w1)[i]?) = w2.map some) (hpn : va_nd pm = true)
    (kk : ∀ (H1 : Heap) (locs1 : List Loc), va_P (dC, dI) vwCl (w2 ++ X) H1 → va_D A (w2 ++ X) → va_S A s.heap H1 locs1 → W p l e R s m args below meth c H1 locs1 (cells + mc) (slots + ms) Q (F0 m (pc + 3) ls rest)) : W p l e R s m args below meth c H locs cells slots Q (F0 m pc ls st0) := by
  have hFc := va_free hD hS hA isC hCx
  refine va_callv hr hS (fun q _ h => hFc q h) hFc (fun u t H1 locs1 ht hvm hw hB hz1 hk1 hS1 => ?_)
  obtain ⟨hP1, hD1⟩ := hB
  rw [ht] at hP1
  obtain ⟨hP2, hD2⟩ := va_joinQ hP hD isC isR hC hR hn hdis hk1 hFc hP1 hD1
  exact kk H1 locs1 (hP2.part pm hpm) (hD2.part pm hpn hpm) hS1
theorem g_calli_x {wc w1 w2 : va_W} {mc ms : Nat} {r : Int32} {a : Array Value} {st0 : List Value} (hr : va_Run p l e R s m args below meth c H locs cells slots mc ms (F0 m pc ls st0) rest (gQI dC dI (va_A wc H.size) r w1 a) (va_A wc H.size)) (hP : va_P (dC, dI) vwCl (ws ++ X) H) (hD : va_D A (ws ++ X)) (hS : va_S A s.heap H locs) (hA : ∀ q, s.heap.size ≤ q → A q)
    (isC isR pm : List Nat) (hC : isC.map (fun i => ws[i]?) = wc.map some) (hCx : isC.map (fun i => (ws ++ X)[i]?) = wc.map some) (hR : isR.map (fun i => ws[i]?) = (isR.filterMap (fun i => ws[i]?)).map some) (hn : va_nd isR = true) (hdis : ∀ i ∈ isR, i ∉ isC) (hpm : pm.map (fun i => (isR.filterMap (fun i => ws[i]?) ++ w1)[i]?) = w2.map some) (hpn : va_nd pm = true)
    (kk : ∀ (H1 : Heap) (locs1 : List Loc), va_P (dC, dI) vwCl (w2 ++ X) H1 → va_D A (w2 ++ X) → va_S A s.heap H1 locs1 → W p l e R s m args below meth c H1 locs1 (cells + mc) (slots + ms) Q (F0 m (pc + 3) ls (.int r :: rest))) : W p l e R s m args below meth c H locs cells slots Q (F0 m pc ls st0) := by
  have hFc := va_free hD hS hA isC hCx
  refine va_calli hr hS (fun q _ h => hFc q h) hFc (fun r1 u t H1 locs1 ht hvm hw hB hz1 hk1 hS1 => ?_)
  subst hw
  obtain ⟨hP1, hD1⟩ := hB
  rw [ht] at hP1
  obtain ⟨hP2, hD2⟩ := va_joinQ hP hD isC isR hC hR hn hdis hk1 hFc hP1 hD1
  exact kk H1 locs1 (hP2.part pm hpm) (hD2.part pm hpn hpm) hS1
theorem g_callE_x {S : Type} {wc : va_W} {w1 w2 : S → va_W} {mc ms : Nat} {a : Array Value} {st0 : List Value} (hr : va_Run p l e R s m args below meth c H locs cells slots mc ms (F0 m pc ls st0) rest (gQE dC dI (va_A wc H.size) w1 a) (va_A wc H.size)) (hP : va_P (dC, dI) vwCl (ws ++ X) H) (hD : va_D A (ws ++ X)) (hS : va_S A s.heap H locs) (hA : ∀ q, s.heap.size ≤ q → A q)
    (isC isR pm : List Nat) (hC : isC.map (fun i => ws[i]?) = wc.map some) (hCx : isC.map (fun i => (ws ++ X)[i]?) = wc.map some) (hR : isR.map (fun i => ws[i]?) = (isR.filterMap (fun i => ws[i]?)).map some) (hn : va_nd isR = true) (hdis : ∀ i ∈ isR, i ∉ isC) (hpm : ∀ u, pm.map (fun i => (isR.filterMap (fun i => ws[i]?) ++ w1 u)[i]?) = (w2 u).map some) (hpn : va_nd pm = true)
    (kk : ∀ (u : S) (H1 : Heap) (locs1 : List Loc), va_P (dC, dI) vwCl (w2 u ++ X) H1 → va_D A (w2 u ++ X) → va_S A s.heap H1 locs1 → W p l e R s m args below meth c H1 locs1 (cells + mc) (slots + ms) Q (F0 m (pc + 3) ls rest)) : W p l e R s m args below meth c H locs cells slots Q (F0 m pc ls st0) := by
  have hFc := va_free hD hS hA isC hCx
  refine va_callv hr hS (fun q _ h => hFc q h) hFc (fun u t H1 locs1 ht hvm hw hB hz1 hk1 hS1 => ?_)
  obtain ⟨hP1, hD1⟩ := hB
  rw [ht] at hP1
  obtain ⟨hP2, hD2⟩ := va_joinQ hP hD isC isR hC hR hn hdis hk1 hFc hP1 hD1
  exact kk u H1 locs1 (hP2.part pm (hpm u)) (hD2.part pm hpn (hpm u)) hS1
/-- a callee that takes the pool too, and gives back another -/
theorem g_callP {S : Type} {wc : va_W} {w1 w2 X1 : S → va_W} {mc ms : Nat} {a : Array Value} {st0 : List Value} (hr : va_Run p l e R s m args below meth c H locs cells slots mc ms (F0 m pc ls st0) rest (gQE dC dI (va_A (wc ++ X) H.size) (fun u => w1 u ++ X1 u) a) (va_A (wc ++ X) H.size)) (hP : va_P (dC, dI) vwCl (ws ++ X) H) (hD : va_D A (ws ++ X)) (hS : va_S A s.heap H locs) (hA : ∀ q, s.heap.size ≤ q → A q)
    (isC isR pm : List Nat) (hC : isC.map (fun i => ws[i]?) = wc.map some) (hR : isR.map (fun i => ws[i]?) = (isR.filterMap (fun i => ws[i]?)).map some) (hn : va_nd isR = true) (hdis : ∀ i ∈ isR, i ∉ isC) (hpm : ∀ u, pm.map (fun i => (isR.filterMap (fun i => ws[i]?) ++ w1 u)[i]?) = (w2 u).map some) (hpn : va_nd pm = true)
    (kk : ∀ (u : S) (H1 : Heap) (locs1 : List Loc), va_P (dC, dI) vwCl (w2 u ++ X1 u) H1 → va_D A (w2 u ++ X1 u) → va_S A s.heap H1 locs1 → W p l e R s m args below meth c H1 locs1 (cells + mc) (slots + ms) Q (F0 m (pc + 3) ls rest)) : W p l e R s m args below meth c H locs cells slots Q (F0 m pc ls st0) := by
  have hFc := va_freeP hD hS hA isC hC
  refine va_callv hr hS (fun q _ h => hFc q h) hFc (fun u t H1 locs1 ht hvm hw hB hz1 hk1 hS1 => ?_)
  obtain ⟨hP1, hD1⟩ := hB
  rw [ht] at hP1
  obtain ⟨hP2, hD2⟩ := va_joinP hP hD isC isR hC hR hn hdis hk1 hFc hP1 hD1
  exact kk u H1 locs1 (hP2.part pm (hpm u)) (hD2.part pm hpn (hpm u)) hS1
theorem g_calliP {wc w1 w2 X1 : va_W} {mc ms : Nat} {r : Int32} {a : Array Value} {st0 : List Value} (hr : va_Run p l e R s m args below meth c H locs cells slots mc ms (F0 m pc ls st0) rest (gQI dC dI (va_A (wc ++ X) H.size) r (w1 ++ X1) a) (va_A (wc ++ X) H.size)) (hP : va_P (dC, dI) vwCl (ws ++ X) H) (hD : va_D A (ws ++ X)) (hS : va_S A s.heap H locs) (hA : ∀ q, s.heap.size ≤ q → A q)
    (isC isR pm : List Nat) (hC : isC.map (fun i => ws[i]?) = wc.map some) (hR : isR.map (fun i => ws[i]?) = (isR.filterMap (fun i => ws[i]?)).map some) (hn : va_nd isR = true) (hdis : ∀ i ∈ isR, i ∉ isC) (hpm : pm.map (fun i => (isR.filterMap (fun i => ws[i]?) ++ w1)[i]?) = w2.map some) (hpn : va_nd pm = true)
    (kk : ∀ (H1 : Heap) (locs1 : List Loc), va_P (dC, dI) vwCl (w2 ++ X1) H1 → va_D A (w2 ++ X1) → va_S A s.heap H1 locs1 → W p l e R s m args below meth c H1 locs1 (cells + mc) (slots + ms) Q (F0 m (pc + 3) ls (.int r :: rest))) : W p l e R s m args below meth c H locs cells slots Q (F0 m pc ls st0) := by
  have hFc := va_freeP hD hS hA isC hC
  refine va_calli hr hS (fun q _ h => hFc q h) hFc (fun r1 u t H1 locs1 ht hvm hw hB hz1 hk1 hS1 => ?_)
  subst hw
  obtain ⟨hP1, hD1⟩ := hB
  rw [ht] at hP1
  obtain ⟨hP2, hD2⟩ := va_joinP hP hD isC isR hC hR hn hdis hk1 hFc hP1 hD1
  exact kk H1 locs1 (hP2.part pm hpm) (hD2.part pm hpn hpm) hS1
theorem g_preSP {wc : va_W} {As : List Value} (hG : gK dC dI k A s) (hP : va_P (dC, dI) vwCl (ws ++ X) H) (hD : va_D A (ws ++ X)) (hS : va_S A s.heap H locs) (hA : ∀ q, s.heap.size ≤ q → A q) (isC : List Nat) (hC : isC.map (fun i => ws[i]?) = wc.map some) (hn : va_nd isC = true) : PreS s H (gPre dC dI k As H.size (wc ++ X)) As := by
  refine ⟨gPre_blind, fun U hU hW => ⟨rfl, by rw [hU], ?_, ?_, ?_⟩⟩
  · rw [hU]; exact hP.part isC hC
  · exact hG.go hS (va_freeP hD hS hA isC hC) hU hW
  · exact (hD.part isC hn hC).weaken (fun _ _ _ _ => trivial)
theorem g_preVP {wc : va_W} {As : List Value} {b ci q0 : Nat} {q : vw_C} {fs : List Value} (hG : gK dC dI k A s) (hP : va_P (dC, dI) vwCl (ws ++ X) H) (hD : va_D A (ws ++ X)) (hS : va_S A s.heap H locs) (hA : ∀ q, s.heap.size ≤ q → A q) (isC : List Nat) (hC : isC.map (fun i => ws[i]?) = wc.map some) (hn : va_nd isC = true) (hc : vwCl[ci]? = some q) (he : (ws ++ X)[q0]? = some (b, .inr (ci, fs))) : PreV s H q.1 b (gPre dC dI k (.ref b :: As) H.size (wc ++ X)) As := by
  obtain ⟨h1, h2⟩ := g_preSP (As := .ref b :: As) hG hP hD hS hA isC hC hn
  exact ⟨h1, va_recv hG.1 hP hc he, h2⟩
theorem g_min (hexec : p.tables.exec = Jvm.exec) (hb : c.code = cc) (hml : c.maxLocals = ls.size) {own : String} {index : Nat} (hown : s.vm.findClass own = some m.cls) (hlink : (Cond.methodLink own index Lib.Math.min.name).before args s = true) (hstat : (Cond.static Lib.Math.min.name).before args s = true) (hini : (Cond.initialized "java/lang/Math").before args s = true) (hcode : (Cond.code Lib.Math.min.name Lib.Math.min.code 2 (some .int)).before args s = true)
    (hframes : 1 ≤ R.frames) (hlocals : (rest.map fun v => v.category).sum + 13 ≤ R.locals) (hc : cells ≤ R.cells) (hs : slots ≤ R.slots) {x y : Int32} (hdg : decode cc pc = .ok (.invokestatic index, 3))
    (kk : W p l e R s m args below meth c H locs cells slots Q (F0 m (pc + 3) ls (.int (minI x y) :: rest))) : W p l e R s m args below meth c H locs cells slots Q (F0 m pc ls (.int y :: .int x :: rest)) :=
  va_mmin hexec hb hml hown hlink hstat hini hcode hframes hlocals hc hs hdg kk
end GP
