/-! ===== plotted coordinates ===== -/
def lvs (g : Nat → Nat → Nat) (set l : Nat) : Bool := set.testBit (g l 4) != set.testBit (g l 5)
def lv1 (g : Nat → Nat → Nat) (set : Nat) : Nat → Nat → Option Nat
  | 0, _ => none
  | k + 1, l => if lvs g set l = true then some l else lv1 g set k (l + 1)
theorem ldiff_pr (g : Nat → Nat → Nat) (l set : Nat) : ldiff (pr g l) set = 0 ↔ (set.testBit (g l 4) = true ∧ set.testBit (g l 5) = true) := by
  have p4 : (pr g l).testBit (g l 4) = true := by unfold pr; rw [Nat.testBit_or, Nat.testBit_two_pow_self]; rfl
  have p5 : (pr g l).testBit (g l 5) = true := by unfold pr; rw [Nat.testBit_or, Nat.testBit_two_pow_self, Bool.or_true]
  constructor
  · intro h
    have h4 := ldiff_bit (pr g l) set (g l 4)
    have h5 := ldiff_bit (pr g l) set (g l 5)
    rw [h, Nat.zero_testBit, p4] at h4
    rw [h, Nat.zero_testBit, p5] at h5
    simp at h4 h5
    exact ⟨h4, h5⟩
  · intro h
    apply Nat.eq_of_testBit_eq
    intro i
    rw [ldiff_bit, Nat.zero_testBit]
    unfold pr
    rw [Nat.testBit_or, Nat.testBit_two_pow, Nat.testBit_two_pow]
    by_cases e4 : g l 4 = i
    · rw [← e4, h.1]; simp
    · by_cases e5 : g l 5 = i
      · rw [← e5, h.2]; simp
      · simp [e4, e5]
theorem leaving_in {n F : Nat} {g : Nat → Nat → Nat} {set : Nat} {rows : Nat → Int32} (hg : WG n g) (hr : RR n g rows) (hs : set < 64) : ∀ (k l fuel : Nat), k + l = n → k < fuel → f_X0_leaving_L2 F (nI n) rows fuel (nI set) (nI l) = some (match lv1 g set k l with | none => -9 | some l => nI l) := by
  intro k
  induction k with
  | zero =>
    intro l fuel hk hf
    have e : l = n := by omega
    subst e
    obtain ⟨f, rfl⟩ : ∃ f, fuel = f + 1 := ⟨fuel - 1, by omega⟩
    show f_X0_leaving_B2 F (nI l) rows _ _ _ = _
    unfold f_X0_leaving_B2
    rw [if_pos (nI_le (Nat.le_refl _) (by have := hg.1; omega))]
    rfl
  | succ k ih =>
    intro l fuel hk hf
    have hn := hg.1
    have hl : l < n := by omega
    obtain ⟨f, rfl⟩ : ∃ f, fuel = f + 1 := ⟨fuel - 1, by omega⟩
    have ih := ih (l + 1) f (by omega) (by omega)
    show f_X0_leaving_B2 F (nI n) rows (f_X0_leaving_L2 F (nI n) rows f) _ _ = _
    unfold f_X0_leaving_B2 f_X0_leaving_J34
    have hp := pr_lt hg.lw hl
    have hlt : pr g l &&& set < 64 := Nat.lt_of_le_of_lt Nat.and_le_right hs
    have hlt2 : ldiff (pr g l) set < 64 := ldiff_lt hp
    rw [if_neg (nI_ge hl (by omega)), g_pair hr hn hl]
    simp only [bnd1_some', nmd, nI_1, fa_and]
    rw [not_nI (by omega)]
    have hpa := pr_and g l set
    have hld := ldiff_pr g l set
    have q1 : (nI (pr g l &&& set) = (0 : Int32)) ↔ pr g l &&& set = 0 := nI_eq (b := 0) (by omega) (by omega)
    have q2 : (nI (ldiff (pr g l) set) = (0 : Int32)) ↔ ldiff (pr g l) set = 0 := nI_eq (b := 0) (by omega) (by omega)
    simp only [q1, q2, hld]
    unfold lv1 lvs
    cases b4 : set.testBit (g l 4) <;> cases b5 : set.testBit (g l 5) <;> simp [b4, b5] at hpa <;> simp [hpa] <;> exact ih
theorem e_leaving {n F : Nat} {g : Nat → Nat → Nat} {set : Nat} {rows : Nat → Int32} (hF : 8 < F) (hg : WG n g) (hr : RR n g rows) (hs : set < 64) : f_X0_leaving F (nI set) (nI n) rows = some (match lv1 g set n 0 with | none => -9 | some l => nI l) := leaving_in hg hr hs n 0 F (by omega) (by have := hg.1; omega)
/-- the vector of a leg -/
def vc (g : Nat → Nat → Nat) (l ax : Nat) : Int32 := vecI (g l 0) (g l 1) (g l 2) ax
def lay (a b : Nat) (f : Bool) (v : Nat → Int32) : Nat → (Nat → Int32) → Nat → Int32
  | 0, P => P
  | k + 1, P => if f = true then upd (lay a b f v k P) (3 * b + k) (lay a b f v k P (3 * a + k) + v k) else upd (lay a b f v k P) (3 * a + k) (lay a b f v k P (3 * b + k) - v k)
def plotN (g : Nat → Nat → Nat) (n : Nat) : Nat → Nat → (Nat → Int32) → Nat → Int32
  | 0, _, P => P
  | k + 1, set, P => match lv1 g set n 0 with
    | none => P
    | some l => plotN g n k (set ||| pr g l) (lay (g l 4) (g l 5) (set.testBit (g l 4)) (vc g l) 3 P)
def PL (g : Nat → Nat → Nat) (n : Nat) : Nat → Int32 := plotN g n 6 1 (fun _ => 0)
def E18 (A B : Nat → Int32) : Prop := ∀ i, i < 18 → A i = B i
theorem upd_cong {A B : Nat → Int32} (h : E18 A B) (i : Nat) {x y : Int32} (e : x = y) : E18 (upd A i x) (upd B i y) := by
  subst e
  intro j hj
  by_cases c : j = i
  · subst c; rw [pk_us, pk_us]
  · rw [pk_un c, pk_un c]; exact h j hj
theorem lay_cong {a b : Nat} {f : Bool} {v : Nat → Int32} (ha : a < 6) (hb : b < 6) : ∀ (k : Nat), k ≤ 3 → ∀ A B, E18 A B → E18 (lay a b f v k A) (lay a b f v k B)
  | 0, _, _, _, h => h
  | k + 1, hk, A, B, h => by
    have ih := lay_cong (f := f) (v := v) ha hb k (by omega) A B h
    cases f with
    | true =>
      show E18 (upd _ _ _) (upd _ _ _)
      exact upd_cong ih _ (by rw [ih _ (by omega)])
    | false =>
      show E18 (upd _ _ _) (upd _ _ _)
      exact upd_cong ih _ (by rw [ih _ (by omega)])
theorem lv1_lt {g : Nat → Nat → Nat} {set : Nat} : ∀ (k l x : Nat), lv1 g set k l = some x → l ≤ x ∧ x < l + k ∧ lvs g set x = true
  | 0, _, _, h => by cases h
  | k + 1, l, x, h => by
    unfold lv1 at h
    by_cases c : lvs g set l = true
    · rw [if_pos c] at h; cases h; exact ⟨Nat.le_refl _, by omega, c⟩
    · rw [if_neg c] at h
      have := lv1_lt k (l + 1) x h
      exact ⟨by omega, by omega, this.2.2⟩
theorem plot_cong {n : Nat} {g : Nat → Nat → Nat} (hw : LW n g) : ∀ (k set : Nat) (A B : Nat → Int32), E18 A B → E18 (plotN g n k set A) (plotN g n k set B)
  | 0, _, _, _, h => h
  | k + 1, set, A, B, h => by
    unfold plotN
    cases e : lv1 g set n 0 with
    | none => exact h
    | some l =>
      have hl := lv1_lt n 0 l e
      have h2 := hw.2 l (by omega)
      exact plot_cong hw k _ _ _ (lay_cong h2.1 h2.2 3 (by omega) A B h)
theorem e_place {a ax : Nat} (P : Nat → Int32) (ha : a < 6) (hx : ax < 3) : f_X3_place (nI a) (nI ax) P = some (P (3 * a + ax)) := by
  have e3 : nI a * nI 3 = nI (3 * a) := by rw [pk_mul, Nat.mul_comm]
  unfold f_X3_place
  simp (disch := omega) only [nmd, fa_lit, e3, nI_add, nI_ltI, nI_leI, chk_nI, cl_nI, if_neg]
theorem e_setPlace {a ax : Nat} (P : Nat → Int32) (x : Int32) (ha : a < 6) (hx : ax < 3) : f_X3_setPlace (nI a) (nI ax) x P = some (upd P (3 * a + ax) x) := by
  have e3 : nI a * nI 3 = nI (3 * a) := by rw [pk_mul, Nat.mul_comm]
  unfold f_X3_setPlace
  simp (disch := omega) only [nmd, fa_lit, e3, nI_add, nI_ltI, nI_leI, chk_nI, cl_nI, if_neg]
theorem plot5_in {n F : Nat} {g : Nat → Nat → Nat} {rows P : Nat → Int32} {kb : (Nat → Int32) → Int32 → Int32 → Option (Nat → Int32)} (hg : WG n g) (hr : RR n g rows) {l set : Nat} (hl : l < n) (hs : set < 64) (x3 : Int32) : ∀ (k ax fuel : Nat), k + ax = 3 → k < fuel → f_X3_plot_L62 F (nI n) rows kb fuel (lay (g l 4) (g l 5) (set.testBit (g l 4)) (vc g l) ax P) (nI set) x3 (nI l) (nI (g l 4)) (nI (g l 5)) (if set.testBit (g l 4) = true then 1 else 0) (nI ax) = kb (lay (g l 4) (g l 5) (set.testBit (g l 4)) (vc g l) 3 P) (nI (set ||| pr g l)) (x3 + 1) := by
  intro k
  have hn := hg.1
  have h4 := (hg.lw.2 l hl).1
  have h5 := (hg.lw.2 l hl).2
  induction k with
  | zero =>
    intro ax fuel hk hf
    have e : ax = 3 := by omega
    subst e
    obtain ⟨f, rfl⟩ : ∃ f, fuel = f + 1 := ⟨fuel - 1, by omega⟩
    show f_X3_plot_B62 F (nI n) rows kb _ _ _ _ _ _ _ _ _ = _
    unfold f_X3_plot_B62
    rw [if_pos (show (3 : Int32) ≤ nI 3 from nI_le (Nat.le_refl 3) (by omega)), shl_nI (by omega), shl_nI (by omega), fa_or, fa_or]
    rfl
  | succ k ih =>
    intro ax fuel hk hf
    have hx : ax < 3 := by omega
    obtain ⟨f, rfl⟩ : ∃ f, fuel = f + 1 := ⟨fuel - 1, by omega⟩
    have ih := ih (ax + 1) f (by omega) (by omega)
    show f_X3_plot_B62 F (nI n) rows kb (f_X3_plot_L62 F (nI n) rows kb f) _ _ _ _ _ _ _ _ = _
    unfold f_X3_plot_B62 f_X3_plot_J124
    rw [if_neg (show ¬ (3 : Int32) ≤ nI ax from fun h => absurd ((nI_leI (a := 3) (by omega) (by omega)).mp h) (by omega)), e_vector hg hr hl hx, e_place _ h4 hx, e_place _ h5 hx]
    simp only [bnd1_some']
    rw [e_setPlace _ _ h4 hx, e_setPlace _ _ h5 hx]
    simp only [bnd1_some', nmd, nI_1, i01]
    rw [← ih]
    show _ = f_X3_plot_L62 F (nI n) rows kb f (if set.testBit (g l 4) = true then upd _ _ _ else upd _ _ _) _ _ _ _ _ _ _
    cases hb : set.testBit (g l 4) with
    | true => simp; rfl
    | false => simp; rfl
theorem holds_n {a l : Nat} (ha : a < 2 ^ 31) (hl : l < 32) : f_X5_holds (nI a) (nI l) = some (if a.testBit l = true then 1 else 0) := e_holds ha hl
theorem nI_n9 {l : Nat} (h : l < 100) : ¬ nI l = (-9 : Int32) := fun e => by
  have := congrArg Int32.toInt e
  rw [nI_toInt (by omega), show (-9 : Int32).toInt = -9 from by decide] at this
  omega
theorem plot5_out {n F : Nat} {g : Nat → Nat → Nat} {rows : Nat → Int32} (hF : 8 < F) (hg : WG n g) (hr : RR n g rows) : ∀ (k t fuel set : Nat) (P : Nat → Int32), k + t = 6 → k < fuel → set < 64 → f_X3_plot_L12 F (nI n) rows fuel P (nI set) (nI t) = some (plotN g n k set P) := by
  intro k
  have hn := hg.1
  induction k with
  | zero =>
    intro t fuel set P hk hf hs
    have e : t = 6 := by omega
    subst e
    obtain ⟨f, rfl⟩ : ∃ f, fuel = f + 1 := ⟨fuel - 1, by omega⟩
    show f_X3_plot_B12 F (nI n) rows _ _ _ _ = _
    unfold f_X3_plot_B12
    rw [if_pos (show (6 : Int32) ≤ nI 6 from nI_le (Nat.le_refl 6) (by omega))]
    rfl
  | succ k ih =>
    intro t fuel set P hk hf hs
    obtain ⟨f, rfl⟩ : ∃ f, fuel = f + 1 := ⟨fuel - 1, by omega⟩
    show f_X3_plot_B12 F (nI n) rows (f_X3_plot_L12 F (nI n) rows f) _ _ _ = _
    unfold f_X3_plot_B12
    rw [if_neg (show ¬ (6 : Int32) ≤ nI t from fun h => absurd ((nI_leI (a := 6) (by omega) (by omega)).mp h) (by omega)), e_leaving hF hg hr hs]
    simp only [bnd1_some']
    unfold plotN
    cases e : lv1 g set n 0 with
    | none => rfl
    | some l =>
      have hl : l < n := by have := lv1_lt n 0 l e; omega
      have h4 := (hg.lw.2 l hl).1
      have h5 := (hg.lw.2 l hl).2
      show (if nI l = (-9 : Int32) then _ else _) = _
      rw [if_neg (nI_n9 (by omega)), show (4 : Int32) = nI 4 from rfl, show (5 : Int32) = nI 5 from rfl, g_row hr hn hl (by omega), g_row hr hn hl (by omega)]
      simp only [bnd1_some']
      rw [e_holds (by omega) (by omega)]
      simp only [bnd1_some']
      have h0 := plot5_in (F := F) (kb := f_X3_plot_L12 F (nI n) rows f) (P := P) hg hr hl hs (nI t) 3 0 F (by omega) (by omega)
      have h1 : f_X3_plot_L62 F (nI n) rows (f_X3_plot_L12 F (nI n) rows f) F P (nI set) (nI t) (nI l) (nI (g l 4)) (nI (g l 5)) (if set.testBit (g l 4) = true then 1 else 0) (0 : Int32) = _ := h0
      rw [h1, nI_1]
      exact ih (t + 1) f (set ||| pr g l) _ (by omega) (by omega) (or_lt hs (pr_lt hg.lw hl))
theorem fill5_in {F : Nat} : ∀ (k i fuel : Nat) (P : Nat → Int32), k + i = 18 → k < fuel → (∀ j, j < i → P j = 0) → ∃ w, f_J7_fill_53178_L5 F fuel P (0 : Int32) (nI i) (18 : Int32) = some w ∧ E18 w (fun _ => 0) := by
  intro k
  induction k with
  | zero =>
    intro i fuel P hk hf hP
    have e : i = 18 := by omega
    subst e
    obtain ⟨f, rfl⟩ : ∃ f, fuel = f + 1 := ⟨fuel - 1, by omega⟩
    exact ⟨P, rfl, hP⟩
  | succ k ih =>
    intro i fuel P hk hf hP
    obtain ⟨f, rfl⟩ : ∃ f, fuel = f + 1 := ⟨fuel - 1, by omega⟩
    have ih := ih (i + 1) f (upd P i 0) (by omega) (by omega) (fun j hj => by
      by_cases e : j = i
      · subst e; exact pk_us
      · rw [pk_un e]; exact hP j (by omega))
    obtain ⟨w, h1, h2⟩ := ih
    refine ⟨w, ?_, h2⟩
    show f_J7_fill_53178_B5 F (f_J7_fill_53178_L5 F f) _ _ _ _ = _
    unfold f_J7_fill_53178_B5
    rw [if_neg (show ¬ (18 : Int32) ≤ nI i from fun h => absurd ((nI_leI (a := 18) (by omega) (by omega)).mp h) (by omega)), chk_nI (by omega) (by omega), cl_nI (by omega), nI_1]
    exact h1
theorem e_plot {n F : Nat} {g : Nat → Nat → Nat} {rows P : Nat → Int32} (hF : 20 < F) (hg : WG n g) (hr : RR n g rows) : ∃ w, f_X3_plot F P (nI n) rows = some w ∧ E18 w (PL g n) := by
  obtain ⟨w, h1, h2⟩ := fill5_in (F := F) 18 0 F P (by omega) (by omega) (fun j hj => absurd hj (Nat.not_lt_zero j))
  have h1' : f_J7_fill_53178 F (0 : Int32) P = some w := h1
  refine ⟨plotN g n 6 1 w, ?_, plot_cong hg.lw 6 1 _ _ h2⟩
  unfold f_X3_plot
  rw [h1']
  exact plot5_out (by omega) hg hr 6 0 F 1 w (by omega) (by omega) (by omega)
