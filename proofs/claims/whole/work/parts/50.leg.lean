/-! ===== the vector of a leg ===== -/
def riseI (t s : Nat) : Int32 := (f_X0_rise (nI t) (nI s)).getD 0
def levI (t s : Nat) : Int32 := (f_X0_level (nI t) (nI s)).getD 0
def vecI (t b s ax : Nat) : Int32 := if ax = 2 then riseI t s else levI t s * sinT ((b + 3 * ax) % 12) / (100 : Int32)
theorem s5 {s : Nat} (h : s ≤ 4) : s = 0 ∨ s = 1 ∨ s = 2 ∨ s = 3 ∨ s = 4 := by omega
theorem e_rise0 {t s : Nat} (h : s ≤ 4) : f_X0_rise (nI t) (nI s) = some (riseI t s) := by
  rcases s5 h with rfl | rfl | rfl | rfl | rfl <;> rfl
theorem e_rise6 {t s : Nat} (h : s ≤ 4) : f_X6_rise (nI t) (nI s) = some (riseI t s) := by
  rcases s5 h with rfl | rfl | rfl | rfl | rfl <;> rfl
theorem e_lev0 {t s : Nat} (h : s ≤ 4) : f_X0_level (nI t) (nI s) = some (levI t s) := by
  rcases s5 h with rfl | rfl | rfl | rfl | rfl <;> rfl
theorem e_lev6 {t s : Nat} (h : s ≤ 4) : f_X6_level (nI t) (nI s) = some (levI t s) := by
  rcases s5 h with rfl | rfl | rfl | rfl | rfl <;> rfl
theorem e_sine : ∀ x, x < 15 → f_X0_sine (nI x) = some (sinT (x % 12)) := by decide +kernel
theorem e_vector {n : Nat} {g : Nat → Nat → Nat} {rows : Nat → Int32} (hg : WG n g) (hr : RR n g rows) {l ax : Nat} (hl : l < n) (hax : ax < 3) : f_X0_vector (nI l) (nI ax) rows = some (vecI (g l 0) (g l 1) (g l 2) ax) := by
  have hn := hg.1
  have h2 := hg.2 l hl
  unfold f_X0_vector f_X0_vector_J49 vecI
  rw [show (0 : Int32) = nI 0 from rfl, show (2 : Int32) = nI 2 from rfl, show (1 : Int32) = nI 1 from rfl, show (3 : Int32) = nI 3 from rfl, g_row hr hn hl (by omega), g_row hr hn hl (by omega), g_row hr hn hl (by omega)]
  simp only [bnd1_some', nI_add]
  rw [e_rise0 (by omega), e_lev0 (by omega)]
  simp only [bnd1_some']
  rw [e_sine _ (by omega), e_sine _ (by omega)]
  simp only [bnd1_some']
  have h012 : ax = 0 ∨ ax = 1 ∨ ax = 2 := by omega
  rcases h012 with rfl | rfl | rfl
  · rw [if_neg (by decide), if_neg (by decide), if_neg (by decide)]
  · rw [if_neg (by decide), if_pos rfl, if_neg (by decide)]
  · rw [if_pos rfl, if_pos rfl]
theorem of_row {n : Nat} {g : Nat → Nat → Nat} {page : Nat → Int32} (hp : PP n g page) (hn : n ≤ 8) {l j : Nat} (hl : l < n) (hj : j < 6) : f_X6_of (nI l) (nI j) page = some (nI (g l j)) := by
  rw [e_of page (by omega) hj, hp.2.2 l hl j hj]
theorem e_stepOf {n : Nat} {g : Nat → Nat → Nat} {page sines : Nat → Int32} (hg : WG n g) (hp : PP n g page) (hs : ∀ j, j < 12 → sines j = sinT j) {l ax : Nat} (hl : l < n) (hax : ax < 3) : f_X6_stepOf (nI l) (nI ax) sines page = some (vecI (g l 0) (g l 1) (g l 2) ax) := by
  have hn := hg.1
  have h2 := hg.2 l hl
  unfold f_X6_stepOf vecI
  rw [show (0 : Int32) = nI 0 from rfl, show (2 : Int32) = nI 2 from rfl, show (1 : Int32) = nI 1 from rfl, of_row hp hn hl (by omega), of_row hp hn hl (by omega), of_row hp hn hl (by omega)]
  simp only [bnd1_some']
  rw [e_rise6 (by omega), e_lev6 (by omega)]
  simp only [bnd1_some']
  have er : remI (nI (g l 1) + (3 : Int32) * nI ax) (12 : Int32) = nI ((g l 1 + 3 * ax) % 12) := by
    rw [fa_lit 3, fa_lit 12, pk_mul, nI_add]
    exact pk_rem (by omega) (by omega) (by omega)
  have hm : (g l 1 + 3 * ax) % 12 < 12 := Nat.mod_lt _ (by omega)
  rw [er, chk_nI hm (by omega), cl_nI (by omega), hs _ hm]
  by_cases c : ax = 2
  · subst c; rw [if_pos rfl, if_pos rfl]
  · rw [if_neg (fun h => c ((nI_eq (by omega) (by omega)).mp h)), if_neg c]
theorem fall_bit {n : Nat} {g : Nat → Nat → Nat} (hg : WG n g) {l : Nat} (hl : l < n) : shrI (nI (fm g n)) (nI l) &&& (1 : Int32) = nI (g l 6) := by
  have hp2 : 2 ^ n ≤ 256 := p2_256 hg.1
  have h6 : ∀ l, l < n → g l 6 ≤ 1 := fun l hl => by have := hg.2 l hl; omega
  have hlt : fm g n < 2 ^ n := by rw [fm_msk h6]; exact msk_lt _ n
  have hn := hg.1
  rw [bit_nI (by omega) (by omega), fm_msk h6, msk_bit]
  have := h6 l hl
  by_cases c : g l 6 = 1
  · simp [hl, c]; rfl
  · have c0 : g l 6 = 0 := by omega
    simp [hl, c0]; rfl
theorem core_leg {N n : Nat} {g : Nat → Nat → Nat} {size st stations : Int32} {rows page sines : Nat → Int32} (h : CV N n g size st rows stations page) (hs : ∀ j, j < 12 → sines j = sinT j) (y1 y2 th : Int32) : ∃ r, f_X5_leg y1 y2 size rows = some r ∧ f_X6_leg y1 y2 th page sines = some (r, 0) := by
  obtain ⟨hw, ⟨rfl, rfl, hr⟩, hp, rfl⟩ := h
  have hn := hw.1
  have hg := hw.wg
  unfold f_X5_leg f_X6_leg
  rw [e_has y1 hn, e_noLeg y1 hn hp.1, e_in]
  simp only [bnd1_some']
  have e9 := v_in y2 9 (by omega)
  rw [show Int64.ofNat 9 = (9 : Int64) from rfl] at e9
  rcases st_cases y1 hn with h1 | ⟨l, hl, rfl⟩
  · exact ⟨-1, by simp [h1], by simp [h1]⟩
  have one0 : ¬ (1 : Int32) = 0 := by decide
  rw [if_pos (in_a hl hn), if_pos (in_a hl hn), if_neg one0, if_pos rfl]
  have k10 : (10 : Int32).toInt = 10 := by decide
  rcases tri y2 (M := 9) (by decide) with h2 | h2 | ⟨w, hw9, rfl⟩
  · exact ⟨-2, by rw [if_pos (by rw [fa_lt, lit_0]; exact h2)], by rw [if_neg (show ¬ ((0 : Int64) ≤ y2.toInt64 ∧ y2.toInt64 ≤ (9 : Int64)) from fun h => by have := e9.mp h; omega)]; rfl⟩
  · exact ⟨-2, by rw [if_neg (by rw [fa_lt, lit_0]; omega), if_neg (by rw [fa_lt, k10]; omega)], by rw [if_neg (show ¬ ((0 : Int64) ≤ y2.toInt64 ∧ y2.toInt64 ≤ (9 : Int64)) from fun h => by have := e9.mp h; omega)]; rfl⟩
  rw [if_neg (nI_pos (by omega)), if_pos (show nI w < (10 : Int32) from nI_lt (b := 10) (by omega) (by omega)), if_pos (show ((0 : Int64) ≤ (nI w).toInt64 ∧ (nI w).toInt64 ≤ (9 : Int64)) from e9.mpr (by rw [nI_toInt (by omega)]; omega)), if_neg one0]
  by_cases c7 : 7 ≤ w
  · obtain ⟨ax, hax, rfl⟩ : ∃ ax, ax < 3 ∧ w = ax + 7 := ⟨w - 7, by omega, by omega⟩
    have e7 : nI (ax + 7) - (7 : Int32) = nI ax := by rw [fa_lit 7, pk_sub (by omega), Nat.add_sub_cancel]
    rw [if_pos (show (7 : Int32) ≤ nI (ax + 7) from nI_le (a := 7) (by omega) (by omega)), if_pos (show (6 : Int32) ≤ nI (ax + 7) from nI_le (a := 6) (by omega) (by omega)), if_neg (show ¬ nI (ax + 7) = (6 : Int32) from fun h => absurd ((nI_eq (b := 6) (by omega) (by omega)).mp h) (by omega)), e7, e_vector hg hr hl hax, e_stepOf hg hp hs hl hax]
    exact ⟨_, rfl, rfl⟩
  · rw [if_neg (show ¬ (7 : Int32) ≤ nI w from fun h => absurd ((nI_leI (a := 7) (by omega) (by omega)).mp h) (by omega)), g_row hr hn hl (by omega)]
    by_cases c6 : w = 6
    · subst c6
      rw [if_pos (show (6 : Int32) ≤ nI 6 from nI_le (a := 6) (by omega) (by omega)), if_pos (show nI 6 = (6 : Int32) from rfl)]
      have e1 : chk (1 : Int32) 50 (some (shrI (page (Int32.toNatClampNeg (1 : Int32))) (nI l) &&& (1 : Int32), (0 : Int32))) = some (shrI (page 1) (nI l) &&& (1 : Int32), (0 : Int32)) := chk_nI (i := 1) (by omega) (by omega)
      rw [e1, hp.2.1, fall_bit hg hl]
      exact ⟨_, rfl, rfl⟩
    · rw [if_neg (show ¬ (6 : Int32) ≤ nI w from fun h => absurd ((nI_leI (a := 6) (by omega) (by omega)).mp h) (by omega)), of_row hp hn hl (by omega)]
      exact ⟨_, rfl, rfl⟩
