theorem fm_range {ws : va_W} : (List.range ws.length).map (fun i => ws[i]?) = ws.map some := by
  apply List.ext_getElem?
  intro i
  rw [List.getElem?_map, List.getElem?_map]
  by_cases h : i < ws.length
  · rw [List.getElem?_range h, List.getElem?_eq_getElem h]
    simp [List.getElem?_eq_getElem h]
  · rw [List.getElem?_eq_none (by rw [List.length_range]; omega), List.getElem?_eq_none (by omega)]
    rfl
theorem sp_cut {ws : va_W} (isC isR : List Nat) {wc : va_W} {N : Nat} (hlen : ws.length = N) (hall : (isC ++ isR).Perm (List.range N)) (hC : isC.map (fun i => ws[i]?) = wc.map some) : ws.Perm (wc ++ isR.filterMap (fun i => ws[i]?)) := by
  subst hlen
  have h := hall.symm.filterMap (fun i => ws[i]?)
  rw [map_fm fm_range, List.filterMap_append, map_fm hC] at h
  exact h
theorem sp_back {w ws2 : va_W} (pm : List Nat) {N : Nat} (hlen : w.length = N) (hall : pm.Perm (List.range N)) (hpm : pm.map (fun i => w[i]?) = ws2.map some) : w.Perm ws2 := by
  subst hlen
  have h := hall.symm.filterMap (fun i => w[i]?)
  rw [map_fm fm_range, map_fm hpm] at h
  exact h
theorem spN {ws wc wr Z : va_W} (h : ws.Perm (wc ++ wr)) : (ws ++ Z).Perm (wc ++ (wr ++ Z)) := by
  have := h.append_right Z
  rw [List.append_assoc] at this
  exact this
theorem sp1 {ws wc wr P1 P2 : va_W} (h : ws.Perm (wc ++ wr)) : (ws ++ (P1 ++ P2)).Perm ((wc ++ P1) ++ (wr ++ P2)) := by
  refine (spN (Z := P1 ++ P2) h).trans ?_
  rw [List.append_assoc]
  exact List.Perm.append_left wc (List.perm_append_comm_assoc wr P1 P2)
theorem sp2 {ws wc wr P1 P2 : va_W} (h : ws.Perm (wc ++ wr)) : (ws ++ (P1 ++ P2)).Perm ((wc ++ P2) ++ (wr ++ P1)) := by
  refine (spN (Z := P1 ++ P2) h).trans ?_
  rw [List.append_assoc]
  refine List.Perm.append_left wc ?_
  exact (List.Perm.append_left wr List.perm_append_comm).trans (List.perm_append_comm_assoc wr P2 P1)
theorem bkN {w1 wr ws2 Z : va_W} (h : (w1 ++ wr).Perm ws2) : (w1 ++ (wr ++ Z)).Perm (ws2 ++ Z) := (spN h.symm).symm
theorem bk1 {w1 wr ws2 P1 P2 : va_W} (h : (w1 ++ wr).Perm ws2) : ((w1 ++ P1) ++ (wr ++ P2)).Perm (ws2 ++ (P1 ++ P2)) := (sp1 h.symm).symm
theorem bk2 {w1 wr ws2 P1 P2 : va_W} (h : (w1 ++ wr).Perm ws2) : ((w1 ++ P2) ++ (wr ++ P1)).Perm (ws2 ++ (P1 ++ P2)) := (sp2 h.symm).symm
theorem join_any {A0 : Nat → Prop} {D : va_G} {cl : List vw_C} {wc rest w1 : va_W} {H H1 : Heap} (hP : va_P D cl (wc ++ rest) H) (hD : va_D A0 (wc ++ rest)) (hk : ∀ q : Nat, q < H.size → ¬ va_A wc H.size q → H1[q]? = H[q]?) (hF : ∀ q, va_A wc H.size q → A0 q) (hP1 : va_P D cl w1 H1) (hD1 : va_D (va_A wc H.size) w1) : va_P D cl (w1 ++ rest) H1 ∧ va_D A0 (w1 ++ rest) := by
  have at' : ∀ (k : Nat) (q : Nat × va_E), rest[k]? = some q → (wc ++ rest)[wc.length + k]? = some q := fun k q hk => by
    rw [List.getElem?_append_right (by omega), Nat.add_sub_cancel_left]; exact hk
  have lt' : ∀ (k : Nat) (q : Nat × va_E), rest[k]? = some q → q.1 < H.size := fun k q hk => (hP _ q (at' k q hk)).lt
  have apart : ∀ (k : Nat) (q : Nat × va_E), rest[k]? = some q → ¬ va_A wc H.size q.1 := by
    intro k q hq h
    rcases h with ⟨i, e, h⟩ | h
    · have hi : i < wc.length := (List.getElem?_eq_some_iff.mp h).1
      have := hD.1 i (wc.length + k) (q.1, e) q (by rw [List.getElem?_append_left hi]; exact h) (at' k q hq) rfl
      omega
    · have := lt' k q hq; omega
  refine ⟨hP1.app ?_, ?_⟩
  · have hPr : va_P D cl rest H := fun k q hq => hP _ q (at' k q hq)
    exact hPr.kept (fun k q hq => hk q.1 (lt' k q hq) (apart k q hq))
  · refine va_D.app (hD1.weaken (fun _ q _ h => hF q.1 h)) ⟨fun i j p q hi hj e => ?_, fun k q hq => hD.2 _ q (at' k q hq)⟩ ?_
    · have := hD.1 _ _ p q (at' i p hi) (at' j q hj) e
      omega
    · intro i j p q hi hj e
      have h := hD1.2 i p hi
      rw [e] at h
      exact apart j q hj h
section GL
variable {dC : Nat → ClassId} {dI : Nat → Nat → Nat} {k : Nat → ClassId}
variable {p : Program} {l : Launch} {e : Env} {R : Room} {s : State} {m : MethodId} {args : Array Value} {below : List Frame} {meth : Method} {c : Code} {H : Heap} {locs : List Loc} {cells slots : Nat} {Q : State → Prop}
variable {cc : ByteArray} {pc : Nat} {ls : Array Slot} {rest : List Value} {A : Nat → Prop} {wld wc rs : va_W}
theorem any_free (hD : va_D A wld) (hS : va_S A s.heap H locs) (hA : ∀ q, s.heap.size ≤ q → A q) (hsp : wld.Perm (wc ++ rs)) : ∀ q, va_A wc H.size q → A q := by
  intro q h
  rcases h with ⟨i, e, h⟩ | h
  · have hm : (q, e) ∈ wld := hsp.mem_iff.mpr (List.mem_append_left _ (List.mem_of_getElem? h))
    obtain ⟨j, hj⟩ := List.mem_iff_getElem?.mp hm
    exact hD.2 j _ hj
  · exact hA q (Nat.le_trans hS.1 h)
theorem g_preV_any {As : List Value} {b ci q0 : Nat} {q : vw_C} {fs : List Value} (hG : gK dC dI k A s) (hP : va_P (dC, dI) vwCl wld H) (hD : va_D A wld) (hS : va_S A s.heap H locs) (hA : ∀ q, s.heap.size ≤ q → A q) (hsp : wld.Perm (wc ++ rs)) (hc : vwCl[ci]? = some q) (he : wc[q0]? = some (b, .inr (ci, fs))) : PreV s H q.1 b (gPre dC dI k (.ref b :: As) H.size wc) As := by
  have hP' := vP_perm hsp hP
  have hD' := vD_perm hsp hD
  have hPc : va_P (dC, dI) vwCl wc H := fun i x hx => hP' i x (by rw [List.getElem?_append_left (List.getElem?_eq_some_iff.mp hx).1]; exact hx)
  have hDc : va_D (fun _ => True) wc := ⟨fun i j x y hi hj e => hD'.1 i j x y (by rw [List.getElem?_append_left (List.getElem?_eq_some_iff.mp hi).1]; exact hi) (by rw [List.getElem?_append_left (List.getElem?_eq_some_iff.mp hj).1]; exact hj) e, fun _ _ _ => trivial⟩
  refine ⟨gPre_blind, va_recv hG.1 hPc hc he, fun U hU hW => ⟨rfl, by rw [hU], by rw [hU]; exact hPc, ?_, hDc⟩⟩
  exact hG.go hS (any_free hD hS hA hsp) hU hW
theorem g_anyE {S : Type} {w1 w2 : S → va_W} {mc ms : Nat} {r : Int32} {a : Array Value} {st0 : List Value} (hr : va_Run p l e R s m args below meth c H locs cells slots mc ms (F0 m pc ls st0) rest (gQEI dC dI (va_A wc H.size) r w1 a) (va_A wc H.size)) (hP : va_P (dC, dI) vwCl wld H) (hD : va_D A wld) (hS : va_S A s.heap H locs) (hA : ∀ q, s.heap.size ≤ q → A q) (hsp : wld.Perm (wc ++ rs)) (hbk : ∀ u, (w1 u ++ rs).Perm (w2 u))
    (kk : ∀ (u : S) (H1 : Heap) (locs1 : List Loc), va_P (dC, dI) vwCl (w2 u) H1 → va_D A (w2 u) → va_S A s.heap H1 locs1 → W p l e R s m args below meth c H1 locs1 (cells + mc) (slots + ms) Q (F0 m (pc + 3) ls (.int r :: rest))) : W p l e R s m args below meth c H locs cells slots Q (F0 m pc ls st0) := by
  have hFc := any_free hD hS hA hsp
  refine va_calli hr hS (fun q _ h => hFc q h) hFc (fun r1 u t H1 locs1 ht hvm hw hB hz1 hk1 hS1 => ?_)
  subst hw
  obtain ⟨hP1, hD1⟩ := hB
  rw [ht] at hP1
  obtain ⟨hP2, hD2⟩ := join_any (vP_perm hsp hP) (vD_perm hsp hD) hk1 hFc hP1 hD1
  exact kk u H1 locs1 (vP_perm (hbk u) hP2) (vD_perm (hbk u) hD2) hS1
theorem g_anyi {w1 w2 : va_W} {mc ms : Nat} {r : Int32} {a : Array Value} {st0 : List Value} (hr : va_Run p l e R s m args below meth c H locs cells slots mc ms (F0 m pc ls st0) rest (gQI dC dI (va_A wc H.size) r w1 a) (va_A wc H.size)) (hP : va_P (dC, dI) vwCl wld H) (hD : va_D A wld) (hS : va_S A s.heap H locs) (hA : ∀ q, s.heap.size ≤ q → A q) (hsp : wld.Perm (wc ++ rs)) (hbk : (w1 ++ rs).Perm w2)
    (kk : ∀ (H1 : Heap) (locs1 : List Loc), va_P (dC, dI) vwCl w2 H1 → va_D A w2 → va_S A s.heap H1 locs1 → W p l e R s m args below meth c H1 locs1 (cells + mc) (slots + ms) Q (F0 m (pc + 3) ls (.int r :: rest))) : W p l e R s m args below meth c H locs cells slots Q (F0 m pc ls st0) :=
  g_anyE (S := Unit) (w1 := fun _ => w1) (w2 := fun _ => w2) hr hP hD hS hA hsp (fun _ => hbk) (fun _ => kk)
theorem g_anyl {w1 w2 : va_W} {mc ms : Nat} {r : Int64} {a : Array Value} {st0 : List Value} (hr : va_Run p l e R s m args below meth c H locs cells slots mc ms (F0 m pc ls st0) rest (gQL dC dI (va_A wc H.size) r w1 a) (va_A wc H.size)) (hP : va_P (dC, dI) vwCl wld H) (hD : va_D A wld) (hS : va_S A s.heap H locs) (hA : ∀ q, s.heap.size ≤ q → A q) (hsp : wld.Perm (wc ++ rs)) (hbk : (w1 ++ rs).Perm w2)
    (kk : ∀ (H1 : Heap) (locs1 : List Loc), va_P (dC, dI) vwCl w2 H1 → va_D A w2 → va_S A s.heap H1 locs1 → W p l e R s m args below meth c H1 locs1 (cells + mc) (slots + ms) Q (F0 m (pc + 3) ls (.long r :: rest))) : W p l e R s m args below meth c H locs cells slots Q (F0 m pc ls st0) := by
  have hFc := any_free hD hS hA hsp
  refine va_calll hr hS (fun q _ h => hFc q h) hFc (fun r1 u t H1 locs1 ht hvm hw hB hz1 hk1 hS1 => ?_)
  subst hw
  obtain ⟨hP1, hD1⟩ := hB
  rw [ht] at hP1
  obtain ⟨hP2, hD2⟩ := join_any (vP_perm hsp hP) (vD_perm hsp hD) hk1 hFc hP1 hD1
  exact kk H1 locs1 (vP_perm hbk hP2) (vD_perm hbk hD2) hS1
end GL
