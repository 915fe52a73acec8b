/-! ===== the past ===== -/
theorem note51_in {F m : Nat} {page : Nat → Int32} (hm : m ≤ 13) : ∀ (k i fuel : Nat) (B : Nat → Int32), k + i = 50 → k < fuel → ∃ B', f_X6_note_L51 F page fuel (nI m) B (nI i) = some (nI (m + 1), B') ∧ ∀ t, B' t = if 50 * m + i ≤ t ∧ t < 50 * m + 50 then page (t - 50 * m) else B t := by
  intro k
  induction k with
  | zero =>
    intro i fuel B hk hf
    have e : i = 50 := by omega
    subst e
    obtain ⟨f, rfl⟩ : ∃ f, fuel = f + 1 := ⟨fuel - 1, by omega⟩
    refine ⟨B, ?_, fun t => by rw [if_neg (by omega)]⟩
    show f_X6_note_B51 F page _ _ _ _ = _
    unfold f_X6_note_B51
    rw [if_pos (show (50 : Int32) ≤ nI 50 from nI_le (Nat.le_refl 50) (by omega)), nI_1]
    rfl
  | succ k ih =>
    intro i fuel B hk hf
    obtain ⟨f, rfl⟩ : ∃ f, fuel = f + 1 := ⟨fuel - 1, by omega⟩
    obtain ⟨B', h1, h2⟩ := ih (i + 1) f (upd B (50 * m + i) (page i)) (by omega) (by omega)
    refine ⟨B', ?_, fun t => ?_⟩
    · show f_X6_note_B51 F page (f_X6_note_L51 F page f) _ _ _ = _
      unfold f_X6_note_B51
      have c : ¬ (50 : Int32) ≤ nI i := fun h => absurd ((nI_leI (a := 50) (by omega) (by omega)).mp h) (by omega)
      have ei : (50 : Int32) * nI m + nI i = nI (50 * m + i) := by rw [fa_lit 50, pk_mul, nI_add]
      rw [if_neg c, ei]
      simp (disch := omega) only [nmd, chk_nI, cl_nI, nI_1]
      exact h1
    · rw [h2 t]
      by_cases c : 50 * m + (i + 1) ≤ t ∧ t < 50 * m + 50
      · rw [if_pos c, if_pos (by omega)]
      · rw [if_neg c]
        by_cases e : t = 50 * m + i
        · subst e; rw [pk_us, if_pos (by omega)]; congr 1; omega
        · rw [pk_un e, if_neg (by omega)]
theorem note11_in {F : Nat} {page : Nat → Int32} : ∀ (k i fuel : Nat) (B : Nat → Int32), k + i = 650 → k < fuel → ∃ B', f_X6_note_L11 F page fuel (nI 14) B (nI i) = f_X6_note_J49 F page (nI 13) B' ∧ ∀ t, t < 650 → B' t = if i ≤ t then B (t + 50) else B t := by
  intro k
  induction k with
  | zero =>
    intro i fuel B hk hf
    have e : i = 650 := by omega
    subst e
    obtain ⟨f, rfl⟩ : ∃ f, fuel = f + 1 := ⟨fuel - 1, by omega⟩
    refine ⟨B, ?_, fun t ht => by rw [if_neg (by omega)]⟩
    show f_X6_note_B11 F page _ _ _ _ = _
    unfold f_X6_note_B11
    rw [if_pos (show (650 : Int32) ≤ nI 650 from nI_le (Nat.le_refl 650) (by omega))]
    rfl
  | succ k ih =>
    intro i fuel B hk hf
    obtain ⟨f, rfl⟩ : ∃ f, fuel = f + 1 := ⟨fuel - 1, by omega⟩
    obtain ⟨B', h1, h2⟩ := ih (i + 1) f (upd B i (B (i + 50))) (by omega) (by omega)
    refine ⟨B', ?_, fun t ht => ?_⟩
    · show f_X6_note_B11 F page (f_X6_note_L11 F page f) _ _ _ = _
      unfold f_X6_note_B11
      have c : ¬ (650 : Int32) ≤ nI i := fun h => absurd ((nI_leI (a := 650) (by omega) (by omega)).mp h) (by omega)
      have ei : nI i + (50 : Int32) = nI (i + 50) := by rw [fa_lit 50, nI_add]
      rw [if_neg c, ei]
      simp (disch := omega) only [nmd, chk_nI, cl_nI, nI_1]
      exact h1
    · rw [h2 t ht]
      by_cases c : i + 1 ≤ t
      · rw [if_pos c, if_pos (by omega), pk_un (by omega)]
      · rw [if_neg c]
        by_cases e : t = i
        · subst e; rw [pk_us, if_pos (by omega)]
        · rw [pk_un e, if_neg (by omega)]
theorem e_note_a {F d : Nat} (hF : F = 1000) (hd : d ≤ 13) (page book : Nat → Int32) : ∃ B', f_X6_note F (nI d) page book = some (nI (d + 1), B') ∧ ∀ t, B' t = if 50 * d ≤ t ∧ t < 50 * d + 50 then page (t - 50 * d) else book t := by
  obtain ⟨B', h1, h2⟩ := note51_in (F := F) (page := page) hd 50 0 F book (by omega) (by omega)
  refine ⟨B', ?_, h2⟩
  unfold f_X6_note
  rw [if_neg (show ¬ nI d = (14 : Int32) from fun h => absurd ((nI_eq (b := 14) (by omega) (by omega)).mp h) (by omega))]
  exact h1
theorem e_note_b {F : Nat} (hF : F = 1000) (page book : Nat → Int32) : ∃ B', f_X6_note F (nI 14) page book = some (nI 14, B') ∧ ∀ t, t < 700 → B' t = if 650 ≤ t then page (t - 650) else book (t + 50) := by
  obtain ⟨B1, h1, h2⟩ := note11_in (F := F) (page := page) 650 0 F book (by omega) (by omega)
  obtain ⟨B', h3, h4⟩ := note51_in (F := F) (page := page) (m := 13) (by omega) 50 0 F B1 (by omega) (by omega)
  refine ⟨B', ?_, fun t ht => ?_⟩
  · unfold f_X6_note
    rw [if_pos (show nI 14 = (14 : Int32) from rfl)]
    have h1' : f_X6_note_L11 F page F (nI 14) book (0 : Int32) = f_X6_note_J49 F page (nI 13) B1 := h1
    rw [h1']
    exact h3
  · rw [h4 t]
    by_cases c : 650 ≤ t
    · rw [if_pos (by omega), if_pos c]
    · rw [if_neg (by omega), if_neg c, h2 t (by omega), if_pos (Nat.zero_le t)]
theorem vup_s (C : CT) (i : Nat) (x : Option (Int32 × Int32 × (Nat → Int32))) : va_up C i x i = x := if_pos rfl
theorem vup_n (C : CT) {i j : Nat} (x : Option (Int32 × Int32 × (Nat → Int32))) (h : j ≠ i) : va_up C i x j = C j := if_neg h
/-- a page of both sides -/
def ENT (N : Nat) (c : Option (Int32 × Int32 × (Nat → Int32))) (page : Nat → Int32) : Prop := ∃ (n : Nat) (g : Nat → Nat → Nat) (s t : Int32) (r : Nat → Int32), WF n N g ∧ c = some (s, t, r) ∧ RLg n N g r s t ∧ RPg n g page
theorem ENT.cong {N : Nat} {c : Option (Int32 × Int32 × (Nat → Int32))} {p p' : Nat → Int32} (h : ENT N c p) (e : ∀ j, j < 50 → p' j = p j) : ENT N c p' := by
  obtain ⟨n, g, s, t, r, h1, h2, h3, h4⟩ := h
  exact ⟨n, g, s, t, r, h1, h2, h3, PP_cong h1.1 e h4⟩
theorem RelU_iff {N : Nat} {next depth : Int32} {C : CT} {doings : Int32} {book : Nat → Int32} : RelU N next depth C doings book ↔ ∃ d x : Nat, d ≤ 14 ∧ x < 14 ∧ next = nI x ∧ depth = nI d ∧ doings = nI d ∧ ∀ i, i < d → ENT N (C ((x + 14 - d + i) % 14)) (fun j => book (50 * i + j)) := Iff.rfl
theorem e_remember {N n F : Nat} {g : Nat → Nat → Nat} {next depth doings : Int32} {C : CT} {rows page book : Nat → Int32} (hF : F = 1000) (hw : WF n N g) (hr : RR n g rows) (hp : PP n g page) (hU : RelU N next depth C doings book) : ∃ (next' depth' : Int32) (C' : CT) (doings' : Int32) (book' : Nat → Int32), f_X1_remember F next depth C (nI n) (nI N) rows = some (next', depth', C') ∧ f_X6_note F doings page book = some (doings', book') ∧ RelU N next' depth' C' doings' book' := by
  obtain ⟨d, x, hd, hx, rfl, rfl, rfl, hE⟩ := RelU_iff.mp hU
  have hn := hw.1
  have cl : Int32.toNatClampNeg (nI x) = x := cl_nI (by omega)
  have em : remI (nI x + (1 : Int32)) (14 : Int32) = nI ((x + 1) % 14) := by
    rw [nI_1]; exact pk_rem (d := 14) (by omega) (by omega) (by omega)
  obtain ⟨cs, ct, cr, h5, hcr⟩ : ∃ cs ct cr, f_X1_remember F (nI x) (nI d) C (nI n) (nI N) rows = some (nI ((x + 1) % 14), minI (nI d + (1 : Int32)) (14 : Int32), va_up C x (some (cs, ct, cr))) ∧ ENT N (some (cs, ct, cr)) page := by
    unfold f_X1_remember
    rw [if_neg (nI_pos (by omega)), if_pos (show nI x < (14 : Int32) from nI_lt (b := 14) (by omega) (by omega)), cl, em]
    cases hC : C x with
    | none =>
      obtain ⟨R', c1, c2⟩ := e_copy (F := F) (by omega) 0 1 (nI n) (nI N) (fun _ => 0) rows
      refine ⟨nI n, nI N, R', ?_, n, g, nI n, nI N, R', hw, rfl, ⟨rfl, rfl, RR_cong hn c2 hr⟩, hp⟩
      simp only
      rw [c1]
      rfl
    | some c =>
      obtain ⟨R', c1, c2⟩ := e_copy (F := F) (by omega) c.1 c.2.1 (nI n) (nI N) c.2.2 rows
      refine ⟨nI n, nI N, R', ?_, n, g, nI n, nI N, R', hw, rfl, ⟨rfl, rfl, RR_cong hn c2 hr⟩, hp⟩
      simp only
      rw [c1]
      rfl
  by_cases c14 : d = 14
  · subst c14
    obtain ⟨B', b1, b2⟩ := e_note_b (F := F) hF page book
    refine ⟨nI ((x + 1) % 14), nI 14, va_up C x (some (cs, ct, cr)), nI 14, B', ?_, b1, RelU_iff.mpr ⟨14, (x + 1) % 14, by omega, by omega, rfl, rfl, rfl, fun i hi => ?_⟩⟩
    · rw [h5]; rfl
    · by_cases c : i = 13
      · subst c
        rw [show ((x + 1) % 14 + 14 - 14 + 13) % 14 = x by omega, vup_s]
        exact hcr.cong (fun j hj => by rw [b2 _ (by omega), if_pos (by omega), show 50 * 13 + j - 650 = j by omega])
      · rw [vup_n _ _ (by omega), show ((x + 1) % 14 + 14 - 14 + i) % 14 = (x + 14 - 14 + (i + 1)) % 14 by omega]
        exact (hE (i + 1) (by omega)).cong (fun j hj => by rw [b2 _ (by omega), if_neg (by omega)]; congr 1; omega)
  · obtain ⟨B', b1, b2⟩ := e_note_a (F := F) (d := d) hF (by omega) page book
    refine ⟨nI ((x + 1) % 14), nI (d + 1), va_up C x (some (cs, ct, cr)), nI (d + 1), B', ?_, b1, RelU_iff.mpr ⟨d + 1, (x + 1) % 14, by omega, by omega, rfl, rfl, rfl, fun i hi => ?_⟩⟩
    · rw [h5, nI_1]
      unfold minI
      rw [if_neg (show ¬ (14 : Int32) < nI (d + 1) from fun h => absurd ((nI_ltI (a := 14) (by omega) (by omega)).mp h) (by omega))]
    · by_cases c : i = d
      · subst c
        rw [show ((x + 1) % 14 + 14 - (i + 1) + i) % 14 = x by omega, vup_s]
        exact hcr.cong (fun j hj => by rw [b2, if_pos (by omega)]; congr 1; omega)
      · rw [vup_n _ _ (by omega), show ((x + 1) % 14 + 14 - (d + 1) + i) % 14 = (x + 14 - d + i) % 14 by omega]
        exact (hE i (by omega)).cong (fun j hj => by rw [b2, if_neg (by omega)])
theorem undo_in {F m : Nat} {book : Nat → Int32} (hm : m ≤ 13) : ∀ (k i fuel : Nat) (P : Nat → Int32), k + i = 50 → k < fuel → ∃ P', f_X6_undo_L27 F book fuel (0 : Int32) (nI m) P (nI i) = some (nI m, 0, nI m, P') ∧ ∀ j, j < 50 → P' j = if i ≤ j then book (50 * m + j) else P j := by
  intro k
  induction k with
  | zero =>
    intro i fuel P hk hf
    have e : i = 50 := by omega
    subst e
    obtain ⟨f, rfl⟩ : ∃ f, fuel = f + 1 := ⟨fuel - 1, by omega⟩
    refine ⟨P, ?_, fun j hj => by rw [if_neg (by omega)]⟩
    show f_X6_undo_B27 F book _ _ _ _ _ = _
    unfold f_X6_undo_B27
    rw [if_pos (show (50 : Int32) ≤ nI 50 from nI_le (Nat.le_refl 50) (by omega))]
  | succ k ih =>
    intro i fuel P hk hf
    obtain ⟨f, rfl⟩ : ∃ f, fuel = f + 1 := ⟨fuel - 1, by omega⟩
    obtain ⟨P', h1, h2⟩ := ih (i + 1) f (upd P i (book (50 * m + i))) (by omega) (by omega)
    refine ⟨P', ?_, fun j hj => ?_⟩
    · show f_X6_undo_B27 F book (f_X6_undo_L27 F book f) _ _ _ _ = _
      unfold f_X6_undo_B27
      have c : ¬ (50 : Int32) ≤ nI i := fun h => absurd ((nI_leI (a := 50) (by omega) (by omega)).mp h) (by omega)
      have ei : (50 : Int32) * nI m + nI i = nI (50 * m + i) := by rw [fa_lit 50, pk_mul, nI_add]
      rw [if_neg c, ei]
      simp (disch := omega) only [nmd, chk_nI, cl_nI, nI_1]
      exact h1
    · rw [h2 j hj]
      by_cases c : i + 1 ≤ j
      · rw [if_pos c, if_pos (by omega)]
      · rw [if_neg c]
        by_cases e : j = i
        · subst e; rw [pk_us, if_pos (by omega)]
        · rw [pk_un e, if_neg (by omega)]
theorem core_undo {N n F : Nat} {g : Nat → Nat → Nat} {size st stations : Int32} {rows page : Nat → Int32} (hF : F = 1000) (h : CV N n g size st rows stations page) {next depth doings : Int32} {C : CT} {book : Nat → Int32} (hU : RelU N next depth C doings book) (th : Int32) : ∃ (r size' st' : Int32) (rows' : Nat → Int32) (next' depth' doings' : Int32) (page' : Nat → Int32) (n' : Nat) (g' : Nat → Nat → Nat), f_X5_undo F size st rows next depth C = some (r, size', st', rows', next', depth') ∧ f_X6_undo F th doings page book = some (r, 0, doings', page') ∧ CV N n' g' size' st' rows' stations page' ∧ RelU N next' depth' C doings' book := by
  have hcv := h
  obtain ⟨hw, ⟨rfl, rfl, hr⟩, hp, rfl⟩ := h
  obtain ⟨d, x, hd, hx, rfl, rfl, rfl, hE⟩ := RelU_iff.mp hU
  have et : remI (nI x + (14 : Int32) - (1 : Int32)) (14 : Int32) = nI ((x + 13) % 14) := by
    rw [fa_lit 14, fa_lit 1, nI_add, pk_sub (by omega)]; exact pk_rem (d := 14) (by omega) (by omega) (by omega)
  unfold f_X5_undo f_X1_restore f_X6_undo
  rw [et]
  simp only [nmd]
  by_cases c0 : d = 0
  · subst c0
    refine ⟨-3, nI n, nI N, rows, nI x, nI 0, nI 0, page, n, g, ?_, ?_, hcv, hU⟩
    · rw [if_pos (show nI 0 < (1 : Int32) by decide)]; rfl
    · rw [if_pos (show nI 0 = (0 : Int32) from rfl)]
  · have h1 : ¬ nI d < (1 : Int32) := fun h => absurd ((nI_ltI (b := 1) (by omega) (by omega)).mp h) (by omega)
    have h2 : ¬ nI d = (0 : Int32) := fun h => absurd ((nI_eq (b := 0) (by omega) (by omega)).mp h) (by omega)
    have hx14 : (x + 13) % 14 < 14 := Nat.mod_lt _ (by omega)
    have h3 : ¬ (14 : Int32) ≤ nI ((x + 13) % 14) := fun h => absurd ((nI_leI (a := 14) (by omega) (by omega)).mp h) (by omega)
    have es : nI d - (1 : Int32) = nI (d - 1) := by rw [fa_lit 1, pk_sub (by omega)]
    have hlast := hE (d - 1) (by omega)
    rw [show (x + 14 - d + (d - 1)) % 14 = (x + 13) % 14 by omega] at hlast
    obtain ⟨n', g', s, t, r, k1, k2, ⟨rfl, rfl, k4⟩, k5⟩ := hlast
    obtain ⟨R', c1, c2⟩ := e_copy (F := F) (by omega) (nI n) (nI N) (nI n') (nI N) rows r
    obtain ⟨P', p1, p2⟩ := undo_in (F := F) (m := d - 1) (book := book) (by omega) 50 0 F page (by omega) (by omega)
    refine ⟨nI (d - 1), nI n', nI N, R', nI ((x + 13) % 14), nI (d - 1), nI (d - 1), P', n', g', ?_, ?_, ⟨k1, ⟨rfl, rfl, RR_cong k1.1 c2 k4⟩, PP_cong (page := fun j => book (50 * (d - 1) + j)) k1.1 (fun j hj => by rw [p2 j hj, if_pos (Nat.zero_le j)]) k5, rfl⟩, RelU_iff.mpr ⟨d - 1, (x + 13) % 14, by omega, hx14, rfl, rfl, rfl, fun i hi => ?_⟩⟩
    · rw [if_neg h1, if_neg (nI_pos (by omega)), if_neg h3, cl_nI (by omega), k2]
      simp only
      rw [c1]
      simp only [bnd3, bnd6, es]
      rfl
    · rw [if_neg h2, es]
      exact p1
    · rw [show ((x + 13) % 14 + 14 - (d - 1) + i) % 14 = (x + 14 - d + i) % 14 by omega]
      exact hE i (by omega)
