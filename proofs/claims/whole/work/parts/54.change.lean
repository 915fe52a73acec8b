/-! ===== changes of a cave ===== -/
def gset (g : Nat → Nat → Nat) (a b v : Nat) : Nat → Nat → Nat := fun l j => if l = a ∧ j = b then v else g l j
def grem (g : Nat → Nat → Nat) (a : Nat) : Nat → Nat → Nat := fun l j => g (if l < a then l else l + 1) j
def gadd (g : Nat → Nat → Nat) (n : Nat) (w : Nat → Nat) : Nat → Nat → Nat := fun l j => if l = n then w j else g l j
theorem RR_cong {n : Nat} {g : Nat → Nat → Nat} {R rows : Nat → Int32} (hn : n ≤ 8) (h : ∀ j, j < 64 → R j = rows j) (hr : RR n g rows) : RR n g R := fun l hl => ⟨fun j hj => by rw [h _ (by omega)]; exact (hr l hl).1 j hj, by rw [h _ (by omega)]; exact (hr l hl).2⟩
theorem PP_cong {n : Nat} {g : Nat → Nat → Nat} {R page : Nat → Int32} (hn : n ≤ 8) (h : ∀ j, j < 50 → R j = page j) (hp : PP n g page) : PP n g R := ⟨by rw [h _ (by omega)]; exact hp.1, by rw [h _ (by omega)]; exact hp.2.1, fun l hl j hj => by rw [h _ (by omega)]; exact hp.2.2 l hl j hj⟩
theorem copy_in {F : Nat} {s' t' : Int32} {rows : Nat → Int32} (s t : Int32) : ∀ (k i fuel : Nat) (R : Nat → Int32), k + i = 64 → k < fuel → ∃ R', f_X0_copy_L7 F s' t' rows fuel s t R (nI i) = some (s', t', R') ∧ ∀ j, j < 64 → R' j = if i ≤ j then rows j else R j := by
  intro k
  induction k with
  | zero =>
    intro i fuel R hk hf
    have e : i = 64 := by omega
    subst e
    obtain ⟨f, rfl⟩ : ∃ f, fuel = f + 1 := ⟨fuel - 1, by omega⟩
    refine ⟨R, ?_, fun j hj => by rw [if_neg (by omega)]⟩
    show f_X0_copy_B7 F s' t' rows _ _ _ _ _ = _
    unfold f_X0_copy_B7
    rw [if_pos (show (64 : Int32) ≤ nI 64 from nI_le (Nat.le_refl 64) (by omega))]
    rfl
  | succ k ih =>
    intro i fuel R hk hf
    obtain ⟨f, rfl⟩ : ∃ f, fuel = f + 1 := ⟨fuel - 1, by omega⟩
    obtain ⟨R', h1, h2⟩ := ih (i + 1) f (upd R i (rows i)) (by omega) (by omega)
    refine ⟨R', ?_, fun j hj => ?_⟩
    · show f_X0_copy_B7 F s' t' rows (f_X0_copy_L7 F s' t' rows f) _ _ _ _ = _
      unfold f_X0_copy_B7
      have c : ¬ (64 : Int32) ≤ nI i := fun h => absurd ((nI_leI (a := 64) (by omega) (by omega)).mp h) (by omega)
      rw [if_neg c, if_neg c]
      simp (disch := omega) only [nmd, chk_nI, cl_nI, nI_1]
      exact h1
    · rw [h2 j hj]
      by_cases c : i + 1 ≤ j
      · rw [if_pos c, if_pos (by omega)]
      · rw [if_neg c]
        by_cases e : j = i
        · subst e; rw [pk_us, if_pos (Nat.le_refl _)]
        · rw [pk_un e, if_neg (by omega)]
theorem e_copy {F : Nat} (hF : 64 < F) (s t s' t' : Int32) (R rows : Nat → Int32) : ∃ R', f_X0_copy F s t R s' t' rows = some (s', t', R') ∧ ∀ j, j < 64 → R' j = rows j := by
  obtain ⟨R', h1, h2⟩ := copy_in (F := F) (s' := s') (t' := t') (rows := rows) s t 64 0 F R (by omega) (by omega)
  exact ⟨R', h1, fun j hj => by rw [h2 j hj, if_pos (Nat.zero_le j)]⟩
theorem trial_in {F : Nat} {page : Nat → Int32} : ∀ (k i fuel : Nat) (R : Nat → Int32), k + i = 50 → k < fuel → ∃ R', f_X6_layTrial_L2 F page fuel R (nI i) = some R' ∧ ∀ j, j < 50 → R' j = if i ≤ j then page j else R j := by
  intro k
  induction k with
  | zero =>
    intro i fuel R hk hf
    have e : i = 50 := by omega
    subst e
    obtain ⟨f, rfl⟩ : ∃ f, fuel = f + 1 := ⟨fuel - 1, by omega⟩
    refine ⟨R, ?_, fun j hj => by rw [if_neg (by omega)]⟩
    show f_X6_layTrial_B2 F page _ _ _ = _
    unfold f_X6_layTrial_B2
    rw [if_pos (show (50 : Int32) ≤ nI 50 from nI_le (Nat.le_refl 50) (by omega))]
  | succ k ih =>
    intro i fuel R hk hf
    obtain ⟨f, rfl⟩ : ∃ f, fuel = f + 1 := ⟨fuel - 1, by omega⟩
    obtain ⟨R', h1, h2⟩ := ih (i + 1) f (upd R i (page i)) (by omega) (by omega)
    refine ⟨R', ?_, fun j hj => ?_⟩
    · show f_X6_layTrial_B2 F page (f_X6_layTrial_L2 F page f) _ _ = _
      unfold f_X6_layTrial_B2
      have c : ¬ (50 : Int32) ≤ nI i := fun h => absurd ((nI_leI (a := 50) (by omega) (by omega)).mp h) (by omega)
      rw [if_neg c]
      simp (disch := omega) only [nmd, chk_nI, cl_nI, nI_1]
      exact h1
    · rw [h2 j hj]
      by_cases c : i + 1 ≤ j
      · rw [if_pos c, if_pos (by omega)]
      · rw [if_neg c]
        by_cases e : j = i
        · subst e; rw [pk_us, if_pos (Nat.le_refl _)]
        · rw [pk_un e, if_neg (by omega)]
theorem e_trial {F : Nat} (hF : 50 < F) (R page : Nat → Int32) : ∃ R', f_X6_layTrial F page R = some R' ∧ ∀ j, j < 50 → R' j = page j := by
  obtain ⟨R', h1, h2⟩ := trial_in (F := F) (page := page) 50 0 F R (by omega) (by omega)
  exact ⟨R', h1, fun j hj => by rw [h2 j hj, if_pos (Nat.zero_le j)]⟩
theorem e_put {l j : Nat} (rows : Nat → Int32) (x : Int32) (hl : l < 8) (hj : j < 8) : f_X0_put (nI l) (nI j) x rows = some (upd rows (8 * l + j) x) := by
  unfold f_X0_put
  have e : nI l * (8 : Int32) + nI j = nI (8 * l + j) := by rw [fa_lit 8, pk_mul, nI_add, Nat.mul_comm]
  rw [e, chk_nI (by omega) (by omega), cl_nI (by omega)]
  rw [if_neg (nI_pos (by omega)), if_neg (by rw [fa_lit 8]; exact nI_ge hl (by omega)), if_neg (nI_pos (by omega)), if_neg (by rw [fa_lit 8]; exact nI_ge hj (by omega))]
theorem RR_put {n : Nat} {g : Nat → Nat → Nat} {rows : Nat → Int32} (hr : RR n g rows) {a b v : Nat} (hb : b < 7) (h4 : b ≠ 4) (h5 : b ≠ 5) : RR n (gset g a b v) (upd rows (8 * a + b) (nI v)) := by
  intro l hl
  constructor
  · intro j hj
    unfold gset
    by_cases c : l = a ∧ j = b
    · rw [if_pos c, c.1, c.2, pk_us]
    · rw [if_neg c, pk_un (by omega)]; exact (hr l hl).1 j hj
  · have e : pr (gset g a b v) l = pr g l := by
      unfold pr gset
      rw [if_neg (fun c => h4 c.2.symm), if_neg (fun c => h5 c.2.symm)]
    rw [e, pk_un (by omega)]; exact (hr l hl).2
theorem fm_cong {g g' : Nat → Nat → Nat} : ∀ {n : Nat}, (∀ l, l < n → g l 6 = g' l 6) → fm g n = fm g' n
  | 0, _ => rfl
  | n + 1, h => by
    show fm g n + _ = fm g' n + _
    rw [fm_cong (fun l hl => h l (by omega)), h n (by omega)]
theorem PP_put {n : Nat} {g : Nat → Nat → Nat} {page : Nat → Int32} (hp : PP n g page) {a b v : Nat} (hb : b < 6) : PP n (gset g a b v) (upd page (2 + 6 * a + b) (nI v)) := by
  refine ⟨by rw [pk_un (by omega)]; exact hp.1, ?_, fun l hl j hj => ?_⟩
  · rw [pk_un (by omega), hp.2.1]
    congr 1
    exact fm_cong (fun l hl => by unfold gset; rw [if_neg (by omega)])
  · unfold gset
    by_cases c : l = a ∧ j = b
    · rw [if_pos c, c.1, c.2, pk_us]
    · rw [if_neg c, pk_un (by omega)]; exact hp.2.2 l hl j hj
theorem fm_turn {n a : Nat} {g : Nat → Nat → Nat} (h6 : ∀ l, l < n → g l 6 ≤ 1) (ha : a < n) : fm (gset g a 6 (1 - g a 6)) n = fm g n ^^^ 2 ^ a := by
  have h6' : ∀ l, l < n → gset g a 6 (1 - g a 6) l 6 ≤ 1 := fun l hl => by
    have := h6 l hl
    unfold gset
    split <;> omega
  rw [fm_msk h6, fm_msk h6']
  apply Nat.eq_of_testBit_eq
  intro i
  rw [Nat.testBit_xor, msk_bit, msk_bit, Nat.testBit_two_pow]
  by_cases e : a = i
  · subst e
    have := h6 a ha
    have e1 : gset g a 6 (1 - g a 6) a 6 = 1 - g a 6 := if_pos ⟨rfl, rfl⟩
    rw [e1]
    by_cases c : g a 6 = 0
    · simp [ha, c]
    · have c1 : g a 6 = 1 := by omega
      simp [ha, c1]
  · have e1 : gset g a 6 (1 - g a 6) i 6 = g i 6 := if_neg (fun c => e c.1.symm)
    rw [e1]
    simp [e]
theorem fm_lt {n : Nat} {g : Nat → Nat → Nat} (h6 : ∀ l, l < n → g l 6 ≤ 1) : fm g n < 2 ^ n := by rw [fm_msk h6]; exact msk_lt _ n
theorem PP_turn {n : Nat} {g : Nat → Nat → Nat} {page : Nat → Int32} (hp : PP n g page) (h6 : ∀ l, l < n → g l 6 ≤ 1) {a : Nat} (ha : a < n) : PP n (gset g a 6 (1 - g a 6)) (upd page 1 (nI (fm g n ^^^ 2 ^ a))) := by
  refine ⟨by rw [pk_un (by omega)]; exact hp.1, by rw [pk_us, fm_turn h6 ha], fun l hl j hj => ?_⟩
  rw [pk_un (by omega), hp.2.2 l hl j hj]
  unfold gset
  rw [if_neg (by omega)]
theorem e_turn {n : Nat} {g : Nat → Nat → Nat} {rows : Nat → Int32} (hr : RR n g rows) (hn : n ≤ 8) (h6 : ∀ l, l < n → g l 6 ≤ 1) {a : Nat} (ha : a < n) : f_X0_turn (nI a) rows = some (upd rows (8 * a + 6) (nI (1 - g a 6))) := by
  unfold f_X0_turn
  have hh := h6 a ha
  rw [show (6 : Int32) = nI 6 from rfl, g_row hr hn ha (by omega)]
  simp only [bnd1_some']
  rw [fa_lit 1, pk_sub (by omega), e_put _ _ (by omega) (by omega)]
  rfl
theorem remove_in {F : Nat} {size : Int32} : ∀ (k i fuel : Nat) (R : Nat → Int32), k + i = 56 → k < fuel → ∃ R', f_X0_remove_L14 F fuel size R (nI i) = some (size - 1, R') ∧ ∀ j, j < 56 → R' j = if i ≤ j then R (j + 8) else R j := by
  intro k
  induction k with
  | zero =>
    intro i fuel R hk hf
    have e : i = 56 := by omega
    subst e
    obtain ⟨f, rfl⟩ : ∃ f, fuel = f + 1 := ⟨fuel - 1, by omega⟩
    refine ⟨R, ?_, fun j hj => by rw [if_neg (by omega)]⟩
    show f_X0_remove_B14 F _ _ _ _ = _
    unfold f_X0_remove_B14
    rw [if_neg (nI_pos (by omega)), if_pos (show (64 : Int32) ≤ nI 56 + (8 : Int32) by decide)]
    rfl
  | succ k ih =>
    intro i fuel R hk hf
    obtain ⟨f, rfl⟩ : ∃ f, fuel = f + 1 := ⟨fuel - 1, by omega⟩
    obtain ⟨R', h1, h2⟩ := ih (i + 1) f (upd R i (R (i + 8))) (by omega) (by omega)
    refine ⟨R', ?_, fun j hj => ?_⟩
    · show f_X0_remove_B14 F (f_X0_remove_L14 F f) _ _ _ = _
      unfold f_X0_remove_B14
      have e8 : nI i + (8 : Int32) = nI (i + 8) := by rw [fa_lit 8, nI_add]
      rw [e8, if_neg (nI_pos (by omega)), if_neg (show ¬ (64 : Int32) ≤ nI (i + 8) from fun h => absurd ((nI_leI (a := 64) (by omega) (by omega)).mp h) (by omega))]
      simp (disch := omega) only [nmd, chk_nI, cl_nI, nI_1]
      exact h1
    · rw [h2 j hj]
      by_cases c : i + 1 ≤ j
      · rw [if_pos c, if_pos (by omega), pk_un (by omega)]
      · rw [if_neg c]
        by_cases e : j = i
        · subst e; rw [pk_us, if_pos (Nat.le_refl _)]
        · rw [pk_un e, if_neg (by omega)]
theorem e_remove {n F : Nat} {g : Nat → Nat → Nat} {rows : Nat → Int32} (hF : 56 < F) (hr : RR n g rows) (hn : n ≤ 8) {a : Nat} (ha : a < n) : ∃ R', f_X0_remove F (nI a) (nI n) rows = some (nI (n - 1), R') ∧ RR (n - 1) (grem g a) R' := by
  obtain ⟨R', h1, h2⟩ := remove_in (F := F) (size := nI n) (56 - 8 * a) (8 * a) F rows (by omega) (by omega)
  refine ⟨R', ?_, fun l hl => ?_⟩
  · unfold f_X0_remove
    rw [e_has _ hn]
    simp only [bnd1_some']
    rw [if_pos (in_a ha hn), if_neg (by decide), fa_lit 8, pk_mul, Nat.mul_comm]
    simp only [nmd]
    rw [h1, fa_lit 1, pk_sub (by omega)]
  · by_cases c : l < a
    · have e : ∀ j, j < 8 → R' (8 * l + j) = rows (8 * l + j) := fun j hj => by rw [h2 _ (by omega), if_neg (by omega)]
      have eg : ∀ j, grem g a l j = g l j := fun j => by unfold grem; rw [if_pos c]
      refine ⟨fun j hj => by rw [e j (by omega), eg]; exact (hr l (by omega)).1 j hj, ?_⟩
      rw [e 7 (by omega)]
      unfold pr
      rw [eg, eg]
      exact (hr l (by omega)).2
    · have e : ∀ j, j < 8 → R' (8 * l + j) = rows (8 * (l + 1) + j) := fun j hj => by rw [h2 _ (by omega), if_pos (by omega)]; congr 1; omega
      have eg : ∀ j, grem g a l j = g (l + 1) j := fun j => by unfold grem; rw [if_neg c]
      refine ⟨fun j hj => by rw [e j (by omega), eg]; exact (hr (l + 1) (by omega)).1 j hj, ?_⟩
      rw [e 7 (by omega)]
      unfold pr
      rw [eg, eg]
      exact (hr (l + 1) (by omega)).2
/-- the set of the fallen without leg a -/
def mrem (m a : Nat) : Nat := (m &&& (2 ^ a - 1)) ||| (m / 2 ^ (a + 1) * 2 ^ a)
theorem mrem_bit (m a i : Nat) : (mrem m a).testBit i = if i < a then m.testBit i else m.testBit (i + 1) := by
  unfold mrem
  rw [Nat.testBit_or, Nat.testBit_and, Nat.testBit_two_pow_sub_one, Nat.mul_comm, Nat.testBit_two_pow_mul, Nat.testBit_div_two_pow]
  by_cases c : i < a
  · have : ¬ (a ≤ i) := by omega
    simp [c, this]
  · have c1 : a ≤ i := by omega
    have e : i - a + (a + 1) = i + 1 := by omega
    simp [c, c1, e]
theorem fm_rem {n a : Nat} {g : Nat → Nat → Nat} (h6 : ∀ l, l < n → g l 6 ≤ 1) (ha : a < n) : fm (grem g a) (n - 1) = mrem (fm g n) a := by
  have h6' : ∀ l, l < n - 1 → grem g a l 6 ≤ 1 := fun l hl => by unfold grem; exact h6 _ (by split <;> omega)
  rw [fm_msk h6, fm_msk h6']
  apply Nat.eq_of_testBit_eq
  intro i
  rw [mrem_bit, msk_bit, msk_bit, msk_bit]
  unfold grem
  by_cases c : i < a
  · have c1 : i < n := by omega
    have c2 : i < n - 1 := by omega
    simp [c, c1, c2]
  · by_cases c1 : i < n - 1
    · have c2 : i + 1 < n := by omega
      simp [c, c1, c2]
    · have c2 : ¬ i + 1 < n := by omega
      simp [c, c1, c2]
theorem takeOn_in {F M m a : Nat} (hm : m ≤ 7) (ha : a ≤ m) (hM : M < 256) : ∀ (k i fuel : Nat) (P : Nat → Int32), k + i = 2 + 6 * m → 2 ≤ i → k < fuel → P 0 = nI m → P 1 = nI M → ∃ P', f_X6_takeOn_L14 F fuel P (nI a) (nI i) = some P' ∧ P' 0 = nI m ∧ P' 1 = nI (mrem M a) ∧ ∀ j, 2 ≤ j → j < 2 + 6 * m → P' j = if i ≤ j then P (j + 6) else P j := by
  intro k
  induction k with
  | zero =>
    intro i fuel P hk h2 hf h0 h1
    have e : i = 2 + 6 * m := by omega
    subst e
    obtain ⟨f, rfl⟩ : ∃ f, fuel = f + 1 := ⟨fuel - 1, by omega⟩
    have em : mrem M a < 2 ^ 31 := by
      have : mrem M a ≤ 255 := by
        have : mrem M a < 2 ^ 8 := by
          unfold mrem
          refine Nat.or_lt_two_pow (Nat.lt_of_le_of_lt Nat.and_le_left hM) ?_
          have q : M / 2 ^ (a + 1) * 2 ^ a ≤ M := by
            have q1 : M / 2 ^ (a + 1) * 2 ^ a ≤ M / 2 ^ (a + 1) * 2 ^ (a + 1) := Nat.mul_le_mul_left _ (Nat.pow_le_pow_right (by omega) (by omega))
            exact Nat.le_trans q1 (Nat.div_mul_le_self M _)
          exact Nat.lt_of_le_of_lt q hM
        omega
      omega
    refine ⟨upd P 1 (nI (mrem M a)), ?_, by rw [pk_un (by omega)]; exact h0, pk_us, fun j hj1 hj2 => by rw [if_neg (by omega), pk_un (by omega)]⟩
    show f_X6_takeOn_B14 F _ _ _ _ = _
    unfold f_X6_takeOn_B14
    have e1 : Int32.toNatClampNeg (1 : Int32) = 1 := rfl
    have c1 : ∀ {α : Type} (x : Option α), chk (1 : Int32) 50 x = x := fun x => chk_nI (i := 1) (by omega) (by omega)
    have eb : (2 : Int32) + (6 : Int32) * nI m = nI (2 + 6 * m) := by rw [fa_lit 2, fa_lit 6, pk_mul, nI_add]
    rw [chk_0 (by omega) (by omega), show Int32.toNatClampNeg (0 : Int32) = 0 from rfl, h0, eb, if_pos (nI_le (Nat.le_refl _) (by omega))]
    simp only [c1, e1, nmd, h1]
    rw [all_nI (by omega), nI_1, shr_nI (by omega) (by omega), fa_and]
    have es : shlI (nI (M / 2 ^ (a + 1))) (nI a) = nI (M / 2 ^ (a + 1) * 2 ^ a) := by
      have hd : M / 2 ^ (a + 1) < 256 := Nat.lt_of_le_of_lt (Nat.div_le_self _ _) hM
      have q : ∀ a, a < 8 → ∀ x, x < 256 → shlI (nI x) (nI a) = nI (x * 2 ^ a) := by decide +kernel
      exact q a (by omega) _ hd
    rw [es, fa_or]
    rfl
  | succ k ih =>
    intro i fuel P hk h2 hf h0 h1
    obtain ⟨f, rfl⟩ : ∃ f, fuel = f + 1 := ⟨fuel - 1, by omega⟩
    obtain ⟨P', q1, q2, q3, q4⟩ := ih (i + 1) f (upd P i (P (i + 6))) (by omega) (by omega) (by omega) (by rw [pk_un (by omega)]; exact h0) (by rw [pk_un (by omega)]; exact h1)
    refine ⟨P', ?_, q2, q3, fun j hj1 hj2 => ?_⟩
    · show f_X6_takeOn_B14 F (f_X6_takeOn_L14 F f) _ _ _ = _
      unfold f_X6_takeOn_B14
      have eb : (2 : Int32) + (6 : Int32) * nI m = nI (2 + 6 * m) := by rw [fa_lit 2, fa_lit 6, pk_mul, nI_add]
      have e6 : nI i + (6 : Int32) = nI (i + 6) := by rw [fa_lit 6, nI_add]
      rw [chk_0 (by omega) (by omega), show Int32.toNatClampNeg (0 : Int32) = 0 from rfl, h0, eb, if_neg (nI_ge (by omega) (by omega)), e6]
      simp (disch := omega) only [nmd, chk_nI, cl_nI, nI_1]
      exact q1
    · rw [q4 j hj1 hj2]
      by_cases c : i + 1 ≤ j
      · rw [if_pos c, if_pos (by omega), pk_un (by omega)]
      · rw [if_neg c]
        by_cases e : j = i
        · subst e; rw [pk_us, if_pos (Nat.le_refl _)]
        · rw [pk_un e, if_neg (by omega)]
theorem e_takeOn {n F : Nat} {g : Nat → Nat → Nat} {page : Nat → Int32} (hF : 60 < F) (hp : PP n g page) (hn : n ≤ 8) (h6 : ∀ l, l < n → g l 6 ≤ 1) {a : Nat} (ha : a < n) : ∃ P', f_X6_takeOn F (nI a) page = some P' ∧ PP (n - 1) (grem g a) P' := by
  have hp2 : 2 ^ n ≤ 256 := p2_256 hn
  have hM := fm_lt h6
  obtain ⟨P', q1, q2, q3, q4⟩ := takeOn_in (F := F) (m := n - 1) (a := a) (M := fm g n) (by omega) (by omega) (by omega) (6 * (n - 1) - 6 * a) (2 + 6 * a) F (upd page 0 (nI (n - 1))) (by omega) (by omega) (by omega) pk_us (by rw [pk_un (by omega)]; exact hp.2.1)
  refine ⟨P', ?_, q2, by rw [q3, fm_rem h6 ha], fun l hl j hj => ?_⟩
  · unfold f_X6_takeOn
    have eb : (2 : Int32) + (6 : Int32) * nI a = nI (2 + 6 * a) := by rw [fa_lit 2, fa_lit 6, pk_mul, nI_add]
    have c0 : ∀ {α : Type} (x : Option α), chk (0 : Int32) 50 x = x := fun x => chk_0 (by omega) (by omega)
    have es : nI n - (1 : Int32) = nI (n - 1) := by rw [fa_lit 1, pk_sub (by omega)]
    simp only [nmd, c0, show Int32.toNatClampNeg (0 : Int32) = 0 from rfl, hp.1, eb, es]
    exact q1
  · rw [q4 _ (by omega) (by omega)]
    unfold grem
    by_cases c : l < a
    · rw [if_neg (by omega), if_pos c, pk_un (by omega)]
      exact hp.2.2 l (by omega) j hj
    · rw [if_pos (by omega), if_neg c, pk_un (by omega), show 2 + 6 * l + j + 6 = 2 + 6 * (l + 1) + j by omega]
      exact hp.2.2 (l + 1) (by omega) j hj
