/-! ===== sets by a test ===== -/
def msk (P : Nat → Bool) : Nat → Nat
  | 0 => 0
  | n + 1 => msk P n + (if P n = true then 2 ^ n else 0)
theorem msk_lt (P : Nat → Bool) : ∀ n, msk P n < 2 ^ n
  | 0 => by show 0 < 1; omega
  | n + 1 => by
    have := msk_lt P n
    show msk P n + _ < 2 ^ (n + 1)
    rw [Nat.pow_succ]
    by_cases c : P n = true
    · rw [if_pos c]; omega
    · rw [if_neg c]; omega
theorem msk_bit (P : Nat → Bool) : ∀ n l, (msk P n).testBit l = (decide (l < n) && P l)
  | 0, l => by simp [msk]
  | n + 1, l => by
    show (msk P n + _).testBit l = _
    have hlt := msk_lt P n
    by_cases c : P n = true
    · rw [if_pos c, Nat.add_comm, ← Nat.mul_one (2 ^ n), Nat.testBit_two_pow_mul_add 1 hlt]
      by_cases h : l < n
      · rw [if_pos h, msk_bit P n l]
        simp [h, Nat.lt_succ_of_lt h]
      · rw [if_neg h]
        by_cases e : l = n
        · subst e; simp [c]
        · have h1 : ¬ l < n + 1 := by omega
          have h2 : (1 : Nat).testBit (l - n) = false := by
            rw [show l - n = (l - n - 1) + 1 by omega, Nat.testBit_succ]; simp
          rw [h2]; simp [h1]
    · rw [if_neg c, Nat.add_zero, msk_bit P n l]
      by_cases e : l = n
      · subst e; simp; simpa using c
      · have : (l < n) ↔ (l < n + 1) := by omega
        simp [this]
theorem msk_cong {P Q : Nat → Bool} : ∀ {n : Nat}, (∀ l, l < n → P l = Q l) → msk P n = msk Q n
  | 0, _ => rfl
  | n + 1, h => by
    show msk P n + _ = msk Q n + _
    rw [msk_cong (fun l hl => h l (by omega)), h n (by omega)]
theorem msk_or {P : Nat → Bool} {n : Nat} (h : P n = true) : msk P n ||| 2 ^ n = msk P (n + 1) := by
  apply Nat.eq_of_testBit_eq
  intro i
  rw [Nat.testBit_or, msk_bit, msk_bit, Nat.testBit_two_pow]
  by_cases e : n = i
  · subst e; simp [h]
  · have : (i < n) ↔ (i < n + 1) := by omega
    simp [e, this]
theorem msk_no {P : Nat → Bool} {n : Nat} (h : P n = false) : msk P (n + 1) = msk P n := by
  show msk P n + _ = _
  rw [if_neg (by rw [h]; decide), Nat.add_zero]
theorem p2_256 {n : Nat} (h : n ≤ 8) : 2 ^ n ≤ 256 := Nat.pow_le_pow_right (n := 2) (by omega) h
/-- open legs of a width or more -/
def opn (g : Nat → Nat → Nat) (w n : Nat) : Nat := msk (fun l => decide (g l 6 = 0 ∧ w ≤ g l 3)) n
theorem opn_bit (g : Nat → Nat → Nat) (w n l : Nat) : (opn g w n).testBit l = decide (l < n ∧ g l 6 = 0 ∧ w ≤ g l 3) := by
  unfold opn; rw [msk_bit]; simp
theorem opn_lt (g : Nat → Nat → Nat) (w n : Nat) : opn g w n < 2 ^ n := msk_lt _ n
/-- the class's rows of a cave -/
def RR (n : Nat) (g : Nat → Nat → Nat) (rows : Nat → Int32) : Prop := ∀ l, l < n → (∀ j, j < 7 → rows (8 * l + j) = nI (g l j)) ∧ rows (8 * l + 7) = nI (pr g l)
/-- the reference's page of a cave -/
def PP (n : Nat) (g : Nat → Nat → Nat) (page : Nat → Int32) : Prop := page 0 = nI n ∧ page 1 = nI (fm g n) ∧ ∀ l, l < n → ∀ j, j < 6 → page (2 + 6 * l + j) = nI (g l j)
/-- a well-formed cave, but for the number of stations -/
def WG (n : Nat) (g : Nat → Nat → Nat) : Prop := n ≤ 8 ∧ ∀ l, l < n → 1 ≤ g l 0 ∧ g l 0 ≤ 99 ∧ g l 1 ≤ 11 ∧ g l 2 ≤ 4 ∧ 1 ≤ g l 3 ∧ g l 3 ≤ 9 ∧ g l 4 < 6 ∧ g l 5 < 6 ∧ g l 4 ≠ g l 5 ∧ g l 6 ≤ 1
theorem WF.wg {n N : Nat} {g : Nat → Nat → Nat} (h : WF n N g) : WG n g := ⟨h.1, fun l hl => by have h1 := h.2.2.1; have h2 := h.2.2.2 l hl; omega⟩
theorem WG.lw {n : Nat} {g : Nat → Nat → Nat} (h : WG n g) : LW n g := ⟨h.1, fun l hl => by have h2 := h.2 l hl; omega⟩
theorem WG.w {n : Nat} {g : Nat → Nat → Nat} (h : WG n g) : ∀ l, l < n → g l 3 < 100 := fun l hl => by have h2 := h.2 l hl; omega
theorem fm_msk {n : Nat} {g : Nat → Nat → Nat} (h : ∀ l, l < n → g l 6 ≤ 1) : fm g n = msk (fun l => decide (g l 6 = 1)) n := by
  induction n with
  | zero => rfl
  | succ n ih =>
    show fm g n + 2 ^ n * g n 6 = msk _ n + _
    rw [ih (fun l hl => h l (by omega))]
    have := h n (by omega)
    by_cases c : g n 6 = 1
    · rw [c, if_pos (by simp [c]), Nat.mul_one]
    · have c0 : g n 6 = 0 := by omega
      rw [c0, if_neg (by simp [c0]), Nat.mul_zero]
theorem g_row {n : Nat} {g : Nat → Nat → Nat} {rows : Nat → Int32} (hr : RR n g rows) (hn : n ≤ 8) {l j : Nat} (hl : l < n) (hj : j < 7) : f_X0_get (nI l) (nI j) rows = some (nI (g l j)) := by
  rw [e_get rows (by omega) (by omega), (hr l hl).1 j hj]
theorem g_pair {n : Nat} {g : Nat → Nat → Nat} {rows : Nat → Int32} (hr : RR n g rows) (hn : n ≤ 8) {l : Nat} (hl : l < n) : f_X0_get (nI l) (7 : Int32) rows = some (nI (pr g l)) := by
  have := e_get rows (l := l) (j := 7) (by omega) (by omega)
  rw [(hr l hl).2] at this
  exact this
theorem open_in {n F : Nat} {g : Nat → Nat → Nat} {w : Nat} {rows : Nat → Int32} (hg : WG n g) (hr : RR n g rows) (hw : w < 100) : ∀ (k l fuel : Nat), k + l = n → k < fuel → f_X0_open_L4 F (nI n) rows fuel (nI w) (nI (opn g w l)) (nI l) = some (nI (opn g w n))
  | 0, l, fuel + 1, hk, hf => by
    have e : l = n := by omega
    subst e
    show f_X0_open_B4 F (nI l) rows _ _ _ _ = _
    unfold f_X0_open_B4
    rw [if_pos (nI_le (Nat.le_refl _) (by have := hg.1; omega))]
  | k + 1, l, fuel + 1, hk, hf => by
    have hn := hg.1
    have hl : l < n := by omega
    have h2 := hg.2 l hl
    have hlt := opn_lt g w l
    have hp2 : 2 ^ l ≤ 256 := p2_256 (by omega)
    show f_X0_open_B4 F (nI n) rows (f_X0_open_L4 F (nI n) rows fuel) _ _ _ = _
    unfold f_X0_open_B4 f_X0_open_J38
    rw [if_neg (nI_ge hl (by omega)), show (6 : Int32) = nI 6 from rfl, show (3 : Int32) = nI 3 from rfl, g_row hr hn hl (by omega), g_row hr hn hl (by omega)]
    simp only [bnd1_some', nmd, nI_1]
    have ih := open_in (F := F) hg hr hw k (l + 1) fuel (by omega) (by omega)
    by_cases c : g l 6 = 0
    · rw [c, if_pos (show nI 0 = (0 : Int32) from rfl)]
      by_cases cw : w ≤ g l 3
      · rw [if_neg (nI_nlt cw (by omega)), shl_nI (by omega), fa_or]
        have e3 : opn g w l ||| 2 ^ l = opn g w (l + 1) := msk_or (by simp [c, cw])
        rw [e3]; exact ih
      · rw [if_pos (nI_lt (by omega) (by omega))]
        have e3 : opn g w (l + 1) = opn g w l := msk_no (by simp [cw])
        rw [← e3]; exact ih
    · rw [if_neg (show ¬ nI (g l 6) = (0 : Int32) from fun h => c ((nI_eq (b := 0) (by omega) (by omega)).mp h))]
      have e3 : opn g w (l + 1) = opn g w l := msk_no (by simp [c])
      rw [← e3]; exact ih
theorem e_open {n F : Nat} {g : Nat → Nat → Nat} {w : Nat} {rows : Nat → Int32} (hF : 8 < F) (hg : WG n g) (hr : RR n g rows) (hw : w < 100) : f_X0_open F (nI w) (nI n) rows = some (nI (opn g w n)) :=
  open_in hg hr hw n 0 F (by omega) (by have := hg.1; omega)
theorem all_nI {n : Nat} (h : n ≤ 8) : shlI (1 : Int32) (nI n) - (1 : Int32) = nI (2 ^ n - 1) := by
  rw [shl_nI (by omega), fa_lit 1, pk_sub (Nat.one_le_two_pow)]
theorem e_all0 {n : Nat} (h : n ≤ 8) : f_X0_all (nI n) = some (nI (2 ^ n - 1)) := by unfold f_X0_all; rw [all_nI h]
theorem e_all6 {n : Nat} {page : Nat → Int32} (h : n ≤ 8) (hp : page 0 = nI n) : f_X6_all page = some (nI (2 ^ n - 1)) := by
  unfold f_X6_all
  rw [chk_0 (by omega) (by omega), show Int32.toNatClampNeg (0 : Int32) = 0 from rfl, hp, all_nI h]
theorem all_bit (n l : Nat) : (2 ^ n - 1).testBit l = decide (l < n) := by rw [Nat.testBit_two_pow_sub_one]
theorem e_openOnes {n : Nat} {g : Nat → Nat → Nat} {page : Nat → Int32} (hg : WG n g) (hp : PP n g page) : f_X6_openOnes page = some (nI (opn g 0 n)) := by
  unfold f_X6_openOnes
  have hp2 : 2 ^ n ≤ 256 := p2_256 hg.1
  rw [e_all6 hg.1 hp.1]
  simp only [bnd1_some']
  have e1 : Int32.toNatClampNeg (1 : Int32) = 1 := rfl
  have e2 : chk (1 : Int32) 50 (some (nI (2 ^ n - 1) &&& (page (Int32.toNatClampNeg (1 : Int32)) ^^^ (-1 : Int32)))) = some (nI (2 ^ n - 1) &&& (page (Int32.toNatClampNeg (1 : Int32)) ^^^ (-1 : Int32))) := chk_nI (i := 1) (by omega) (by omega)
  rw [e2, e1, hp.2.1, not_nI (by omega)]
  congr 2
  apply Nat.eq_of_testBit_eq
  intro i
  rw [ldiff_bit, all_bit, opn_bit, fm_msk (fun l hl => by have := hg.2 l hl; omega), msk_bit]
  by_cases h : i < n
  · have := hg.2 i h
    by_cases c : g i 6 = 0
    · simp [h, c]
    · have c1 : g i 6 = 1 := by omega
      simp [h, c1]
  · simp [h]
/-- where S holds open legs alone -/
theorem and_opn {n S w : Nat} {g : Nat → Nat → Nat} (hS : ∀ l, S.testBit l = true → l < n ∧ g l 6 = 0) : S &&& opn g w n = wid g S w n := by
  apply Nat.eq_of_testBit_eq
  intro i
  rw [Nat.testBit_and, opn_bit, wid_bit]
  cases hb : S.testBit i with
  | false => simp
  | true => have := hS i hb; simp [this]
theorem wid_opn {n w : Nat} {g : Nat → Nat → Nat} : wid g (opn g 0 n) w n = opn g w n := by
  apply Nat.eq_of_testBit_eq
  intro i
  rw [wid_bit, opn_bit, opn_bit]
  by_cases h : i < n <;> simp [h]
theorem opn01 {n : Nat} {g : Nat → Nat → Nat} (hg : WG n g) : opn g 1 n = opn g 0 n := by
  apply Nat.eq_of_testBit_eq
  intro i
  rw [opn_bit, opn_bit]
  by_cases h : i < n
  · have := hg.2 i h
    have h1 : 1 ≤ g i 3 := by omega
    simp [h, h1]
  · simp [h]
theorem e_holds {a l : Nat} (ha : a < 2 ^ 31) (hl : l < 32) : f_X5_holds (nI a) (nI l) = some (if a.testBit l = true then 1 else 0) := by
  unfold f_X5_holds
  rw [if_neg (nI_pos (by omega)), if_neg (show ¬ (32 : Int32) ≤ nI l from fun h => absurd ((nI_leI (a := 32) (by omega) (by omega)).mp h) (by omega)), bit_nI ha hl]
  cases a.testBit l <;> rfl
/-- the greatest width, down from k -/
def gwk (g : Nat → Nat → Nat) (n S a b : Nat) : Nat → Nat
  | 0 => 0
  | k + 1 => if (rch g (wid g S (k + 1) n) n 6 (2 ^ a)).testBit b = true then k + 1 else gwk g n S a b k
def gw (g : Nat → Nat → Nat) (n S a b : Nat) : Nat := if a = b then 10 else gwk g n S a b 9
theorem nI_m1 (n : Nat) : nI (n + 1) + (-1 : Int32) = nI n := pk_m1 n
theorem gw_in {n F : Nat} {g : Nat → Nat → Nat} {S S' a b : Nat} {rows : Nat → Int32} (hF : 8 < F) (hg : WG n g) (hr : RR n g rows) (hT : ∀ w, S &&& opn g w n = wid g S' w n) (ha : a < 6) (hb : b < 6) : ∀ (k fuel : Nat), k ≤ 9 → k < fuel → f_X0_greatestWidth_L12 F (nI n) rows fuel (nI S) (nI a) (nI b) (nI k) = some (nI (gwk g n S' a b k))
  | 0, fuel + 1, _, _ => rfl
  | k + 1, fuel + 1, hk, hf => by
    have hn := hg.1
    have hp2 : 2 ^ n ≤ 256 := p2_256 hn
    show f_X0_greatestWidth_B12 F (nI n) rows (f_X0_greatestWidth_L12 F (nI n) rows fuel) _ _ _ _ = _
    unfold f_X0_greatestWidth_B12
    rw [if_neg (nI_nle (by omega) (by omega)), e_open hF hg hr (by omega)]
    simp only [bnd1_some']
    have hwl : wid g S' (k + 1) n < 2 ^ n := wid_lt g S' (k + 1) n
    rw [fa_and, hT (k + 1), shl_nI (by omega), e_spread hF hg.lw hwl (two_lt ha) (fun l hl => (hr l hl).2)]
    simp only [bnd1_some']
    have hlt := rch_lt hg.lw hwl 6 (2 ^ a) (two_lt ha)
    rw [e_holds (by omega) (by omega)]
    simp only [bnd1_some', i01, nmd, nI_m1]
    show _ = some (nI (if (rch g (wid g S' (k + 1) n) n 6 (2 ^ a)).testBit b = true then k + 1 else gwk g n S' a b k))
    cases hbt : (rch g (wid g S' (k + 1) n) n 6 (2 ^ a)).testBit b with
    | true => simp
    | false =>
      simp
      exact gw_in hF hg hr hT ha hb k fuel (by omega) (by omega)
theorem e_gw {n F : Nat} {g : Nat → Nat → Nat} {S S' a b : Nat} {rows : Nat → Int32} (hF : 9 < F) (hg : WG n g) (hr : RR n g rows) (hT : ∀ w, S &&& opn g w n = wid g S' w n) (ha : a < 6) (hb : b < 6) : f_X0_greatestWidth F (nI S) (nI a) (nI b) (nI n) rows = some (nI (gw g n S' a b)) := by
  unfold f_X0_greatestWidth gw
  by_cases e : a = b
  · subst e; rw [if_pos rfl, if_pos rfl]; rfl
  · rw [if_neg (fun h => e ((nI_eq (by omega) (by omega)).mp h)), if_neg e]
    exact gw_in (by omega) hg hr hT ha hb 9 F (by omega) (by omega)
theorem wb_in {n F : Nat} {g : Nat → Nat → Nat} {S a b : Nat} {page : Nat → Int32} (hF : 8 < F) (hg : WG n g) (hp : PP n g page) (hSl : S < 2 ^ n) (ha : a < 6) (hb : b < 6) (hab : a ≠ b) : ∀ (k fuel : Nat), k ≤ 9 → k < fuel → f_X6_widestBy_L15 F page fuel (nI S) (nI a) (nI b) (nI k) = some (nI (gwk g n S a b k))
  | 0, fuel + 1, _, _ => rfl
  | k + 1, fuel + 1, hk, hf => by
    have hn := hg.1
    have hp2 : 2 ^ n ≤ 256 := p2_256 hn
    show f_X6_widestBy_B15 F page (f_X6_widestBy_L15 F page fuel) _ _ _ _ = _
    unfold f_X6_widestBy_B15
    have hwl : wid g S (k + 1) n < 2 ^ n := wid_lt g S (k + 1) n
    rw [if_neg (nI_nle (by omega) (by omega)), if_neg (fun h => hab ((nI_eq (by omega) (by omega)).mp h)), e_from hF hg.lw hSl ha (by omega) hg.w hp.1 hp.2.2]
    simp only [bnd1_some']
    have hlt := rch_lt hg.lw hwl 6 (2 ^ a) (two_lt ha)
    rw [e_has6 (by omega) (by omega)]
    simp only [bnd1_some', i01, nmd, nI_m1]
    show _ = some (nI (if (rch g (wid g S (k + 1) n) n 6 (2 ^ a)).testBit b = true then k + 1 else gwk g n S a b k))
    cases hbt : (rch g (wid g S (k + 1) n) n 6 (2 ^ a)).testBit b with
    | true => simp
    | false =>
      simp
      exact wb_in hF hg hp hSl ha hb hab k fuel (by omega) (by omega)
theorem e_wb {n F : Nat} {g : Nat → Nat → Nat} {S a b : Nat} {page : Nat → Int32} (hF : 9 < F) (hg : WG n g) (hp : PP n g page) (hSl : S < 2 ^ n) (ha : a < 6) (hb : b < 6) : f_X6_widestBy F (nI S) (nI a) (nI b) page = some (nI (gw g n S a b)) := by
  unfold f_X6_widestBy f_X6_widestBy_J13 gw
  by_cases e : a = b
  · subst e
    rw [if_pos rfl, if_pos rfl]
    obtain ⟨f, rfl⟩ : ∃ f, F = f + 1 := ⟨F - 1, by omega⟩
    show f_X6_widestBy_B15 (f + 1) page _ _ _ _ _ = _
    unfold f_X6_widestBy_B15
    rw [if_neg (show ¬ (10 : Int32) ≤ 0 by decide), if_pos rfl]
    rfl
  · rw [if_neg (fun h => e ((nI_eq (by omega) (by omega)).mp h)), if_neg e]
    exact wb_in (by omega) hg hp hSl ha hb e 9 F (by omega) (by omega)
theorem all_opn {n w : Nat} {g : Nat → Nat → Nat} : (2 ^ n - 1) &&& opn g w n = wid g (opn g 0 n) w n := by
  rw [wid_opn]
  apply Nat.eq_of_testBit_eq
  intro i
  rw [Nat.testBit_and, all_bit, opn_bit]
  by_cases h : i < n <;> simp [h]
