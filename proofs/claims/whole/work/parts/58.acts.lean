/-! ===== acts ===== -/
def lo (j : Nat) : Nat := if j = 0 ∨ j = 3 then 1 else 0
def hi (j : Nat) : Nat := if j = 0 then 99 else if j = 1 then 11 else if j = 2 then 4 else 9
def okv (j : Nat) (x : Int32) : Bool := decide ((lo j : Int) ≤ x.toInt ∧ x.toInt ≤ (hi j : Int))
theorem al_g (x : Int32) {a b : Nat} (ha : a < 100) (hb : b < 100) : (if x < nI a then some (0 : Int32) else (if nI b < x then some 0 else some 1)) = some (if decide ((a : Int) ≤ x.toInt ∧ x.toInt ≤ (b : Int)) = true then 1 else 0) := by
  simp only [fa_lt, nI_toInt (show a < 2 ^ 31 by omega), nI_toInt (show b < 2 ^ 31 by omega)]
  by_cases c1 : x.toInt < a
  · rw [if_pos c1, if_neg (by simp; omega)]
  · rw [if_neg c1]
    by_cases c2 : (b : Int) < x.toInt
    · rw [if_pos c2, if_neg (by simp; omega)]
    · rw [if_neg c2, if_pos (by simp; omega)]
theorem fi_g (x : Int32) {a b : Nat} (ha : a < 100) (hb : b < 100) : f_X6_in x.toInt64 (lN a) (lN b) = some (if decide ((a : Int) ≤ x.toInt ∧ x.toInt ≤ (b : Int)) = true then 1 else 0) := by
  rw [e_in]
  simp only [fa_le64, Int32.toInt_toInt64, lN_toInt (show a < 2 ^ 31 by omega), lN_toInt (show b < 2 ^ 31 by omega), decide_eq_true_eq]
theorem e_allows {j : Nat} (hj : j ≤ 3) (x : Int32) : f_X5_allows (nI j) x = some (if okv j x = true then 1 else 0) := by
  have h : j = 0 ∨ j = 1 ∨ j = 2 ∨ j = 3 := by omega
  unfold f_X5_allows okv
  rcases h with rfl | rfl | rfl | rfl
  · rw [if_pos (show nI 0 = (0 : Int32) from rfl)]; exact al_g x (a := 1) (b := 99) (by omega) (by omega)
  · rw [if_neg (show ¬ nI 1 = (0 : Int32) by decide), if_pos (show nI 1 = (1 : Int32) from rfl)]; exact al_g x (a := 0) (b := 11) (by omega) (by omega)
  · rw [if_neg (show ¬ nI 2 = (0 : Int32) by decide), if_neg (show ¬ nI 2 = (1 : Int32) by decide), if_pos (show nI 2 = (2 : Int32) from rfl)]; exact al_g x (a := 0) (b := 4) (by omega) (by omega)
  · rw [if_neg (show ¬ nI 3 = (0 : Int32) by decide), if_neg (show ¬ nI 3 = (1 : Int32) by decide), if_neg (show ¬ nI 3 = (2 : Int32) by decide), if_pos (show nI 3 = (3 : Int32) from rfl)]; exact al_g x (a := 1) (b := 9) (by omega) (by omega)
theorem z01b (r : Bool) {α : Type} (x : Option α) : chkZ (if r = true then 1 else 0) x = x := by cases r <;> rfl
theorem e_fits {j : Nat} (hj : j ≤ 3) (x : Int32) : f_X6_fits (nI j) x = some (if okv j x = true then 1 else 0) := by
  have h : j = 0 ∨ j = 1 ∨ j = 2 ∨ j = 3 := by omega
  have f0 : f_X6_in x.toInt64 (1 : Int64) (99 : Int64) = _ := fi_g x (a := 1) (b := 99) (by omega) (by omega)
  have f1 : f_X6_in x.toInt64 (0 : Int64) (11 : Int64) = _ := fi_g x (a := 0) (b := 11) (by omega) (by omega)
  have f2 : f_X6_in x.toInt64 (0 : Int64) (4 : Int64) = _ := fi_g x (a := 0) (b := 4) (by omega) (by omega)
  have f3 : f_X6_in x.toInt64 (1 : Int64) (9 : Int64) = _ := fi_g x (a := 1) (b := 9) (by omega) (by omega)
  unfold f_X6_fits
  rw [f0, f1, f2, f3]
  simp only [bnd1_some', z01b]
  unfold okv
  rcases h with rfl | rfl | rfl | rfl
  · rw [if_pos (show nI 0 = (0 : Int32) from rfl)]; rfl
  · rw [if_neg (show ¬ nI 1 = (0 : Int32) by decide), if_pos (show nI 1 = (1 : Int32) from rfl)]; rfl
  · rw [if_neg (show ¬ nI 2 = (0 : Int32) by decide), if_neg (show ¬ nI 2 = (1 : Int32) by decide), if_pos (show nI 2 = (2 : Int32) from rfl)]; rfl
  · rw [if_neg (show ¬ nI 3 = (0 : Int32) by decide), if_neg (show ¬ nI 3 = (1 : Int32) by decide), if_neg (show ¬ nI 3 = (2 : Int32) by decide)]; rfl
theorem okv_nI {j : Nat} {x : Int32} (h : okv j x = true) : ∃ v : Nat, lo j ≤ v ∧ v ≤ hi j ∧ x = nI v := by
  unfold okv at h
  have h := of_decide_eq_true h
  have hh : hi j ≤ 99 := by unfold hi; split; omega; split; omega; split <;> omega
  refine ⟨x.toInt.toNat, by omega, by omega, ?_⟩
  rw [fa_eq, nI_toInt (by omega)]
  omega
theorem core_take {N n F : Nat} {g : Nat → Nat → Nat} {size st stations : Int32} {rows page : Nat → Int32} (hF : F = 1000) (h : CV N n g size st rows stations page) {next depth doings : Int32} {C : CT} {book : Nat → Int32} (hU : RelU N next depth C doings book) (y th : Int32) : ∃ (r size' : Int32) (rows' : Nat → Int32) (next' depth' : Int32) (C' : CT) (doings' : Int32) (page' book' : Nat → Int32) (n' : Nat) (g' : Nat → Nat → Nat), f_X5_take F y size st rows next depth C = some (r, size', rows', next', depth', C') ∧ f_X6_take F y th doings page book = some (r, 0, doings', page', book') ∧ CV N n' g' size' st rows' stations page' ∧ RelU N next' depth' C' doings' book' := by
  have hcv := h
  obtain ⟨hw, ⟨rfl, rfl, hr⟩, hp, rfl⟩ := h
  have hn := hw.1
  obtain ⟨nx', dp', C', dg', bk', u1, u2, u3⟩ := e_remember (F := F) hF hw hr hp hU
  unfold f_X5_take f_X6_take
  rw [e_has y hn, e_noLeg y hn hp.1, u1, u2]
  simp only [bnd1_some', bnd2, bnd3]
  rcases st_cases y hn with h1 | ⟨a, ha, rfl⟩
  · exact ⟨-1, nI n, rows, next, depth, C, doings, page, book, n, g, by simp [h1], by simp [h1], hcv, hU⟩
  have hin := in_a ha hn
  obtain ⟨R', e1, e2⟩ := e_remove (F := F) (by omega) hr hn ha
  obtain ⟨P', e3, e4⟩ := e_takeOn (F := F) (by omega) hp hn hw.h6 ha
  rw [if_pos hin, if_pos hin, e1, e3]
  simp only [bnd1_some']
  refine ⟨nI (n - 1), nI (n - 1), R', nx', dp', C', dg', P', bk', n - 1, grem g a, by rw [if_neg (by decide)], ?_, ⟨WF_rem hw ha, ⟨rfl, rfl, e2⟩, e4, rfl⟩, u3⟩
  rw [if_pos True.intro, chk_0 (by omega) (by omega), show Int32.toNatClampNeg (0 : Int32) = 0 from rfl, e4.1]
theorem core_fall {N n F : Nat} {g : Nat → Nat → Nat} {size st stations : Int32} {rows page : Nat → Int32} (hF : F = 1000) (h : CV N n g size st rows stations page) {next depth doings : Int32} {C : CT} {book : Nat → Int32} (hU : RelU N next depth C doings book) (y th : Int32) : ∃ (r : Int32) (rows' : Nat → Int32) (next' depth' : Int32) (C' : CT) (doings' : Int32) (page' book' : Nat → Int32) (n' : Nat) (g' : Nat → Nat → Nat), f_X5_fall F y size st rows next depth C = some (r, rows', next', depth', C') ∧ f_X6_fall F y th doings page book = some (r, 0, doings', page', book') ∧ CV N n' g' size st rows' stations page' ∧ RelU N next' depth' C' doings' book' := by
  have hcv := h
  obtain ⟨hw, ⟨rfl, rfl, hr⟩, hp, rfl⟩ := h
  have hn := hw.1
  obtain ⟨nx', dp', C', dg', bk', u1, u2, u3⟩ := e_remember (F := F) hF hw hr hp hU
  unfold f_X5_fall f_X6_fall
  rw [e_has y hn, e_noLeg y hn hp.1, u1, u2]
  simp only [bnd1_some', bnd2, bnd3]
  rcases st_cases y hn with h1 | ⟨a, ha, rfl⟩
  · exact ⟨-1, rows, next, depth, C, doings, page, book, n, g, by simp [h1], by simp [h1], hcv, hU⟩
  have hin := in_a ha hn
  have hT := RR_put (a := a) (b := 6) (v := 1 - g a 6) hr (by omega) (by omega) (by omega)
  have hP := PP_turn hp hw.h6 ha
  have hW : WF n N (gset g a 6 (1 - g a 6)) := WF_set hw (by omega)
  have eg : gset g a 6 (1 - g a 6) a 6 = 1 - g a 6 := if_pos ⟨rfl, rfl⟩
  rw [if_pos hin, if_pos hin, e_turn hr hn hw.h6 ha]
  simp only [bnd1_some']
  rw [show (6 : Int32) = nI 6 from rfl, g_row hT hn ha (by omega)]
  simp only [bnd1_some']
  refine ⟨nI (1 - g a 6), _, nx', dp', C', dg', upd page 1 (nI (fm g n ^^^ 2 ^ a)), bk', n, gset g a 6 (1 - g a 6), by rw [if_neg (by decide), eg], ?_, ⟨hW, ⟨rfl, rfl, hT⟩, hP, rfl⟩, u3⟩
  have c1 : ∀ {α : Type} (x : Option α), chk (1 : Int32) 50 x = x := fun x => chk_nI (i := 1) (by omega) (by omega)
  simp only [c1, show Int32.toNatClampNeg (1 : Int32) = 1 from rfl, hp.2.1, xor_lit (show a < 8 by omega), nmd, pk_us]
  rw [if_pos True.intro, ← fm_turn hw.h6 ha, fall_bit hW.wg ha, eg]
theorem core_read {N n F : Nat} {g : Nat → Nat → Nat} {size st stations : Int32} {rows page : Nat → Int32} (hF : F = 1000) (h : CV N n g size st rows stations page) {next depth doings : Int32} {C : CT} {book : Nat → Int32} (hU : RelU N next depth C doings book) (y1 y2 y3 th : Int32) : ∃ (r : Int32) (rows' : Nat → Int32) (next' depth' : Int32) (C' : CT) (doings' : Int32) (page' book' : Nat → Int32) (n' : Nat) (g' : Nat → Nat → Nat), f_X5_read F y1 y2 y3 size st rows next depth C = some (r, rows', next', depth', C') ∧ f_X6_read F y1 y2 y3 th doings page book = some (r, 0, doings', page', book') ∧ CV N n' g' size st rows' stations page' ∧ RelU N next' depth' C' doings' book' := by
  have hcv := h
  obtain ⟨hw, ⟨rfl, rfl, hr⟩, hp, rfl⟩ := h
  have hn := hw.1
  obtain ⟨nx', dp', C', dg', bk', u1, u2, u3⟩ := e_remember (F := F) hF hw hr hp hU
  unfold f_X5_read f_X6_read
  rw [e_has y1 hn, e_noLeg y1 hn hp.1, u1, u2, e_in]
  have e3 := v_in y2 3 (by omega)
  rw [show Int64.ofNat 3 = (3 : Int64) from rfl] at e3
  simp only [bnd1_some', bnd2, bnd3, e3]
  have no : ∀ r A B, A = some (r, rows, next, depth, C) → B = some (r, (0 : Int32), doings, page, book) → ∃ (r : Int32) (rows' : Nat → Int32) (next' depth' : Int32) (C' : CT) (doings' : Int32) (page' book' : Nat → Int32) (n' : Nat) (g' : Nat → Nat → Nat), A = some (r, rows', next', depth', C') ∧ B = some (r, 0, doings', page', book') ∧ CV N n' g' (nI n) (nI N) rows' (nI N) page' ∧ RelU N next' depth' C' doings' book' := fun r A B e1 e2 => ⟨r, rows, next, depth, C, doings, page, book, n, g, e1, e2, hcv, hU⟩
  rcases st_cases y1 hn with h1 | ⟨a, ha, rfl⟩
  · exact no (-1) _ _ (by simp [h1]) (by simp [h1])
  have hin := in_a ha hn
  rw [if_pos hin, if_pos hin, if_neg (show ¬ (1 : Int32) = 0 by decide), if_pos rfl]
  rcases tri y2 (M := 3) (by decide) with h0 | h0 | ⟨b, hb, rfl⟩
  · have ea : f_X5_allows y2 y3 = some 0 := by
      unfold f_X5_allows
      have q : ∀ c : Nat, c < 4 → ¬ y2 = nI c := fun c hc e => by rw [e, nI_toInt (by omega)] at h0; omega
      rw [if_neg (show ¬ y2 = 0 from q 0 (by omega)), if_neg (show ¬ y2 = 1 from q 1 (by omega)), if_neg (show ¬ y2 = 2 from q 2 (by omega)), if_neg (show ¬ y2 = 3 from q 3 (by omega))]
    refine no (-2) _ _ ?_ ?_
    · rw [ea]; rfl
    · rw [if_neg (show ¬ (0 ≤ y2.toInt ∧ y2.toInt ≤ (3 : Nat)) by omega)]; rfl
  · have ea : f_X5_allows y2 y3 = some 0 := by
      unfold f_X5_allows
      have q : ∀ c : Nat, c < 4 → ¬ y2 = nI c := fun c hc e => by rw [e, nI_toInt (by omega)] at h0; omega
      rw [if_neg (show ¬ y2 = 0 from q 0 (by omega)), if_neg (show ¬ y2 = 1 from q 1 (by omega)), if_neg (show ¬ y2 = 2 from q 2 (by omega)), if_neg (show ¬ y2 = 3 from q 3 (by omega))]
    refine no (-2) _ _ ?_ ?_
    · rw [ea]; rfl
    · rw [if_neg (show ¬ (0 ≤ y2.toInt ∧ y2.toInt ≤ (3 : Nat)) by omega)]; rfl
  rw [nI_toInt (show b < 2 ^ 31 by omega), if_pos (show (0 ≤ (b : Int) ∧ (b : Int) ≤ (3 : Nat)) by omega), if_neg (show ¬ (1 : Int32) = 0 by decide), e_allows hb, e_fits hb]
  simp only [bnd1_some', i01]
  cases hok : okv b y3 with
  | false => exact no (-2) _ _ (by simp) (by simp)
  | true =>
    obtain ⟨v, v1, v2, rfl⟩ := okv_nI hok
    have i0 : (2 : Int32) + (6 : Int32) * nI a + nI b = nI (2 + 6 * a + b) := by rw [fa_lit 2, fa_lit 6, pk_mul, nI_add, nI_add]
    rw [if_neg (show ¬ true = false by decide), if_neg (show ¬ true = false by decide), g_row hr hn ha (by omega), e_put _ _ (by omega) (by omega), of_row hp hn ha (by omega), i0]
    simp only [bnd1_some']
    rw [chk_nI (by omega) (by omega), cl_nI (by omega)]
    refine ⟨nI (g a b), _, nx', dp', C', dg', _, bk', n, gset g a b v, rfl, rfl, ⟨WF_set hw ?_, ⟨rfl, rfl, RR_put hr (by omega) (by omega) (by omega)⟩, PP_put hp (by omega), rfl⟩, u3⟩
    have h : b = 0 ∨ b = 1 ∨ b = 2 ∨ b = 3 := by omega
    rcases h with rfl | rfl | rfl | rfl
    · have q1 : 1 ≤ v := v1
      have q2 : v ≤ 99 := v2
      omega
    · have q2 : v ≤ 11 := v2
      omega
    · have q2 : v ≤ 4 := v2
      omega
    · have q1 : 1 ≤ v := v1
      have q2 : v ≤ 9 := v2
      omega
