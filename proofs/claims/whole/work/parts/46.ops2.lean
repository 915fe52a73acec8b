/-! ===== must ===== -/
theorem wid0 {n S : Nat} {g : Nat → Nat → Nat} (hS : S < 2 ^ n) : wid g S 0 n = S := by
  apply Nat.eq_of_testBit_eq
  intro i
  rw [wid_bit]
  cases hb : S.testBit i with
  | false => simp
  | true => have := bit_lt hS hb; simp [this]
theorem e_tied {n F : Nat} {g : Nat → Nat → Nat} {S : Nat} {page : Nat → Int32} (hF : 8 < F) (hg : WG n g) (hS : S < 2 ^ n) (hp : PP n g page) : f_X6_tiedBy F (nI S) page = some (nI (rch g S n 6 1)) := by
  unfold f_X6_tiedBy
  have := e_reached (w := 0) hF hg.lw hS (by omega) hg.w hp.1 hp.2.2
  rw [wid0 hS] at this
  rw [show nI 0 = (0 : Int32) from rfl] at this
  rw [this]
  rfl
theorem e_spread1 {n F : Nat} {g : Nat → Nat → Nat} {S : Nat} {rows : Nat → Int32} (hF : 8 < F) (hg : WG n g) (hS : S < 2 ^ n) (hr : RR n g rows) : f_X0_spread F (nI S) (1 : Int32) rows = some (nI (rch g S n 6 1)) :=
  e_spread (set := 1) hF hg.lw hS (by omega) (fun l hl => (hr l hl).2)
def mustP (g : Nat → Nat → Nat) (n O a : Nat) : Nat → Bool := fun l => !(rch g (ldiff O (2 ^ l)) n 6 1).testBit a
theorem ldiff_lt {a b m : Nat} (h : a < m) : ldiff a b < m := Nat.lt_of_le_of_lt (ldiff_le a b) h
theorem must_5 {n F : Nat} {g : Nat → Nat → Nat} {O a : Nat} {rows : Nat → Int32} (st : Int32) (hF : 8 < F) (hg : WG n g) (hr : RR n g rows) (hO : O < 2 ^ n) (ha : a < 6) : ∀ (k l fuel : Nat), k + l = n → k < fuel → f_X5_must_L45 F (nI n) st rows fuel (nI a) (nI O) (nI (msk (mustP g n O a) l)) (nI l) = some (nI (msk (mustP g n O a) n))
  | 0, l, fuel + 1, hk, hf => by
    have e : l = n := by omega
    subst e
    show f_X5_must_B45 F (nI l) st rows _ _ _ _ _ = _
    unfold f_X5_must_B45
    rw [if_pos (nI_le (Nat.le_refl _) (by have := hg.1; omega))]
  | k + 1, l, fuel + 1, hk, hf => by
    have hn := hg.1
    have hl : l < n := by omega
    have hp2 : 2 ^ n ≤ 256 := p2_256 hn
    have ih := must_5 (F := F) st hF hg hr hO ha k (l + 1) fuel (by omega) (by omega)
    show f_X5_must_B45 F (nI n) st rows (f_X5_must_L45 F (nI n) st rows fuel) _ _ _ _ = _
    unfold f_X5_must_B45 f_X5_must_J87
    have hd : ldiff O (2 ^ l) < 2 ^ n := ldiff_lt hO
    rw [if_neg (nI_ge hl (by omega)), shl_nI (by omega), not_nI (by omega), e_spread1 hF hg hd hr]
    simp only [bnd1_some']
    have hlt := rch_lt hg.lw hd 6 1 (by omega)
    rw [e_holds (by omega) (by omega)]
    simp only [bnd1_some', i01, nmd, nI_1, fa_or]
    cases hb : (rch g (ldiff O (2 ^ l)) n 6 1).testBit a with
    | true =>
      simp
      have e3 : msk (mustP g n O a) (l + 1) = msk (mustP g n O a) l := msk_no (by unfold mustP; rw [hb]; rfl)
      rw [← e3]; exact ih
    | false =>
      simp
      have e3 : msk (mustP g n O a) l ||| 2 ^ l = msk (mustP g n O a) (l + 1) := msk_or (by unfold mustP; rw [hb]; rfl)
      rw [e3]; exact ih
theorem ldiff_same {O l : Nat} (h : O.testBit l = false) : ldiff O (2 ^ l) = O := by
  apply Nat.eq_of_testBit_eq
  intro i
  rw [ldiff_bit, Nat.testBit_two_pow]
  by_cases e : l = i
  · subst e; rw [h]; rfl
  · simp [e]
theorem must_6 {n F : Nat} {g : Nat → Nat → Nat} {O a : Nat} {page : Nat → Int32} (st th : Int32) (hF : 8 < F) (hg : WG n g) (hp : PP n g page) (hO : O < 2 ^ n) (ha : a < 6) (hin : (rch g O n 6 1).testBit a = true) : ∀ (k l fuel : Nat), k + l = n → k < fuel → f_X6_must_L46 F st page fuel th (nI a) (nI O) (nI (msk (mustP g n O a) l)) (nI l) = some (nI (msk (mustP g n O a) n), th)
  | 0, l, fuel + 1, hk, hf => by
    have e : l = n := by omega
    subst e
    show f_X6_must_B46 F st page _ _ _ _ _ _ = _
    unfold f_X6_must_B46
    rw [chk_0 (by omega) (by omega), show Int32.toNatClampNeg (0 : Int32) = 0 from rfl, hp.1, if_pos (nI_le (Nat.le_refl _) (by have := hg.1; omega))]
  | k + 1, l, fuel + 1, hk, hf => by
    have hn := hg.1
    have hl : l < n := by omega
    have hp2 : 2 ^ n ≤ 256 := p2_256 hn
    have ih := must_6 (F := F) st th hF hg hp hO ha hin k (l + 1) fuel (by omega) (by omega)
    show f_X6_must_B46 F st page (f_X6_must_L46 F st page fuel) _ _ _ _ _ = _
    unfold f_X6_must_B46 f_X6_must_J97 f_X6_must_J98
    have hd : ldiff O (2 ^ l) < 2 ^ n := ldiff_lt hO
    rw [chk_0 (by omega) (by omega), show Int32.toNatClampNeg (0 : Int32) = 0 from rfl, hp.1, if_neg (nI_ge hl (by omega)), shl_nI (by omega), not_nI (by omega), e_tied hF hg hd hp, e_has6 (by omega) (by omega)]
    simp only [bnd1_some']
    have hlt := rch_lt hg.lw hd 6 1 (by omega)
    rw [e_has6 (by omega) (by omega)]
    have or0 : nI (msk (mustP g n O a) l) ||| (0 : Int32) = nI (msk (mustP g n O a) l) := by rw [fa_lit 0, fa_or, Nat.or_zero]
    simp only [bnd1_some', i01, nmd, nI_1, fa_or, or0]
    have yes : (rch g (ldiff O (2 ^ l)) n 6 1).testBit a = true → msk (mustP g n O a) (l + 1) = msk (mustP g n O a) l := fun hb => msk_no (by unfold mustP; rw [hb]; rfl)
    cases ho : O.testBit l with
    | false =>
      simp
      rw [← yes (by rw [ldiff_same ho]; exact hin)]; exact ih
    | true =>
      cases hb : (rch g (ldiff O (2 ^ l)) n 6 1).testBit a with
      | true =>
        simp
        rw [← yes hb]; exact ih
      | false =>
        simp
        have e3 : msk (mustP g n O a) l ||| 2 ^ l = msk (mustP g n O a) (l + 1) := msk_or (by unfold mustP; rw [hb]; rfl)
        rw [e3]; exact ih
theorem core_must {N n F : Nat} {g : Nat → Nat → Nat} {size st stations : Int32} {rows page : Nat → Int32} (hF : 9 < F) (h : CV N n g size st rows stations page) (y th : Int32) : ∃ r, f_X5_must F y size st rows = some r ∧ f_X6_must F y th stations page = some (r, 0) := by
  obtain ⟨hw, ⟨rfl, rfl, hr⟩, hp, rfl⟩ := h
  have hN : N ≤ 8 := by have := hw.2.2.1; omega
  have hN6 : N ≤ 6 := hw.2.2.1
  have hn8 := hw.1
  have hp2 : 2 ^ n ≤ 256 := p2_256 hw.1
  unfold f_X5_must f_X6_must
  rw [e_hasSt y hN, e_noSt y hN]
  simp only [bnd1_some']
  rcases st_cases y hN with h1 | ⟨a, ha, rfl⟩
  · exact ⟨-1, by simp [h1], by simp [h1]⟩
  · have e3 := e_open (w := 1) (show 8 < F by omega) hw.wg hr (by omega)
    rw [show nI 1 = (1 : Int32) from rfl, opn01 hw.wg] at e3
    have hO := opn_lt g 0 n
    rw [if_pos (in_a ha hN), if_pos (in_a ha hN), e3, e_openOnes hw.wg hp]
    simp only [bnd1_some']
    rw [e_spread1 (by omega) hw.wg hO hr, e_tied (by omega) hw.wg hO hp]
    simp only [bnd1_some']
    have hlt := rch_lt hw.wg.lw hO 6 1 (by omega)
    rw [e_holds (by omega) (by omega), e_has6 (by omega) (by omega)]
    simp only [bnd1_some', i01]
    cases hb : (rch g (opn g 0 n) n 6 1).testBit a with
    | false => exact ⟨0, by simp, by simp⟩
    | true =>
      refine ⟨nI (msk (mustP g n (opn g 0 n) a) n), ?_, ?_⟩
      · simp
        exact must_5 (nI N) (by omega) hw.wg hr hO (by omega) n 0 F (by omega) (by omega)
      · simp
        exact must_6 (nI N) 0 (by omega) hw.wg hp hO (by omega) hb n 0 F (by omega) (by omega)
