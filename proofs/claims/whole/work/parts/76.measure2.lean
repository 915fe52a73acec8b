set_option maxRecDepth 100000 in
theorem core_measure {N n F : Nat} {g : Nat → Nat → Nat} {size st stations : Int32} {rows page : Nat → Int32} (hF : F = 1000) (h : CV N n g size st rows stations page) {next depth doings : Int32} {C : CT} {book : Nat → Int32} (hU : RelU N next depth C doings book) (y1 y2 y3 y4 y5 y6 th : Int32) : ∃ (r size' : Int32) (rows' : Nat → Int32) (next' depth' : Int32) (C' : CT) (doings' : Int32) (page' book' : Nat → Int32) (n' : Nat) (g' : Nat → Nat → Nat), f_X5_measure F y1 y2 y3 y4 y5 y6 size st rows next depth C = some (r, size', rows', next', depth', C') ∧ f_X6_measure F y1 y2 y3 y4 y5 y6 th stations doings page book = some (r, 0, doings', page', book') ∧ CV N n' g' size' st rows' stations page' ∧ RelU N next' depth' C' doings' book' := by
  have hcv := h
  obtain ⟨hw, ⟨rfl, rfl, hr⟩, hp, rfl⟩ := h
  have hn := hw.1
  have hN := hw.2.2.1
  obtain ⟨nx', dp', C', dg', bk', u1, u2, u3⟩ := e_remember (F := F) hF hw hr hp hU
  have no : ∀ r A B, A = some (r, nI n, rows, next, depth, C) → B = some (r, (0 : Int32), doings, page, book) → ∃ (r size' : Int32) (rows' : Nat → Int32) (next' depth' : Int32) (C' : CT) (doings' : Int32) (page' book' : Nat → Int32) (n' : Nat) (g' : Nat → Nat → Nat), A = some (r, size', rows', next', depth', C') ∧ B = some (r, 0, doings', page', book') ∧ CV N n' g' size' (nI N) rows' (nI N) page' ∧ RelU N next' depth' C' doings' book' := fun r A B e1 e2 => ⟨r, nI n, rows, next, depth, C, doings, page, book, n, g, e1, e2, hcv, hU⟩
  unfold f_X5_measure f_X6_measure
  have a0 : f_X5_allows (0 : Int32) y3 = _ := e_allows (j := 0) (by omega) y3
  have a1 : f_X5_allows (1 : Int32) y4 = _ := e_allows (j := 1) (by omega) y4
  have a2 : f_X5_allows (2 : Int32) y5 = _ := e_allows (j := 2) (by omega) y5
  have a3 : f_X5_allows (3 : Int32) y6 = _ := e_allows (j := 3) (by omega) y6
  have b0 : f_X6_fits (0 : Int32) y3 = _ := e_fits (j := 0) (by omega) y3
  have b1 : f_X6_fits (1 : Int32) y4 = _ := e_fits (j := 1) (by omega) y4
  have b2 : f_X6_fits (2 : Int32) y5 = _ := e_fits (j := 2) (by omega) y5
  have b3 : f_X6_fits (3 : Int32) y6 = _ := e_fits (j := 3) (by omega) y6
  rw [e_hasSt y1 (by omega), e_hasSt y2 (by omega), e_noSt y1 (by omega), e_noSt y2 (by omega), u1, u2, a0, a1, a2, a3, b0, b1, b2, b3]
  simp only [bnd1_some']
  rcases st_cases y1 (N := N) (by omega) with h1 | ⟨f, hf, rfl⟩
  · exact no (-1) _ _ (by simp [h1]) (by simp [h1])
  rw [if_pos (in_a hf (by omega)), if_pos (in_a hf (by omega)), if_neg (show ¬ (1 : Int32) = 0 by decide), if_pos rfl]
  rcases st_cases y2 (N := N) (by omega) with h2 | ⟨o, ho, rfl⟩
  · exact no (-1) _ _ (by simp [h2]) (by simp [h2])
  rw [if_pos (in_a ho (by omega)), if_pos (in_a ho (by omega)), if_neg (show ¬ (1 : Int32) = 0 by decide), if_pos rfl]
  by_cases c : f = o
  · subst c
    exact no (-3) _ _ (by rw [if_pos rfl]) (by rw [if_pos rfl])
  have c' : ¬ nI f = nI o := fun e => c ((nI_eq (by omega) (by omega)).mp e)
  rw [if_neg c', if_neg c']
  simp only [i01]
  cases k0 : okv 0 y3 with
  | false => exact no (-2) _ _ (by simp) (by simp)
  | true =>
  rw [if_neg (show ¬ true = false by decide), if_neg (show ¬ true = false by decide)]
  cases k1 : okv 1 y4 with
  | false => exact no (-2) _ _ (by simp) (by simp)
  | true =>
  rw [if_neg (show ¬ true = false by decide), if_neg (show ¬ true = false by decide)]
  cases k2 : okv 2 y5 with
  | false => exact no (-2) _ _ (by simp) (by simp)
  | true =>
  rw [if_neg (show ¬ true = false by decide), if_neg (show ¬ true = false by decide)]
  cases k3 : okv 3 y6 with
  | false => exact no (-2) _ _ (by simp) (by simp)
  | true =>
  rw [if_neg (show ¬ true = false by decide), if_neg (show ¬ true = false by decide)]
  obtain ⟨t, t1, t2, rfl⟩ := okv_nI k0
  obtain ⟨b, g1, g2, rfl⟩ := okv_nI k1
  obtain ⟨s, s1, s2, rfl⟩ := okv_nI k2
  obtain ⟨w, w1, w2, rfl⟩ := okv_nI k3
  rw [show lo 0 = 1 from rfl] at t1
  rw [show hi 0 = 99 from rfl] at t2
  rw [show hi 1 = 11 from rfl] at g2
  rw [show hi 2 = 4 from rfl] at s2
  rw [show lo 3 = 1 from rfl] at w1
  rw [show hi 3 = 9 from rfl] at w2
  have k8 : (nI n = (8 : Int32)) ↔ n = 8 := nI_eq (b := 8) (by omega) (by omega)
  have k9 : (nI n < (8 : Int32)) ↔ n < 8 := nI_ltI (b := 8) (by omega) (by omega)
  by_cases c8 : n = 8
  · refine no (-4) _ _ ?_ ?_
    · rw [if_neg (fun q => by have := k9.mp q; omega)]
    · rw [chk_0 (by omega) (by omega), show Int32.toNatClampNeg (0 : Int32) = 0 from rfl, hp.1, if_pos (k8.mpr c8)]
  · have hn8 : n < 8 := by omega
    obtain ⟨R', r1, r2⟩ := e_add (t := t) (b := b) (s := s) (w := w) (f := f) (o := o) hr hn8 (by omega) (by omega)
    obtain ⟨P', p1, p2⟩ := meas_page (t := t) (b := b) (s := s) (w := w) (f := f) (o := o) (fun r P => some (r, (0 : Int32), dg', P, bk')) hp hw.h6 hn8
    refine ⟨nI (n + 1), nI (n + 1), R', nx', dp', C', dg', P', bk', n + 1, _, ?_, ?_, ⟨WF_add hw hn8 t1 t2 g2 s2 w1 w2 hf ho c, ⟨rfl, rfl, r2⟩, p2, rfl⟩, u3⟩
    · rw [if_pos (k9.mpr hn8)]
      simp only [bnd3]
      rw [r1]
      rfl
    · have z : ¬ page (Int32.toNatClampNeg (0 : Int32)) = (8 : Int32) := fun q => c8 (k8.mp (by rw [← hp.1]; exact q))
      rw [chk_0 (by omega) (by omega), if_neg z, bnd2S, p1]
