/-! ===== questions about passages ===== -/
theorem st_cases (y : Int32) {N : Nat} (hN : N ≤ 8) : (¬ (0 ≤ y.toInt ∧ y.toInt < N)) ∨ ∃ a : Nat, a < N ∧ y = nI a := by
  by_cases h : 0 ≤ y.toInt ∧ y.toInt < N
  · refine Or.inr ⟨y.toInt.toNat, by omega, ?_⟩
    rw [fa_eq, nI_toInt (by omega)]
    omega
  · exact Or.inl h
theorem e_hasSt {N : Nat} (x : Int32) (hn : N ≤ 8) : f_X0_hasStation x (nI N) = some (if 0 ≤ x.toInt ∧ x.toInt < N then 1 else 0) := e_has x hn
theorem no_iff {n : Nat} (y : Int32) (hn : n ≤ 8) : ((0 : Int64) ≤ y.toInt64 ∧ y.toInt64 ≤ (nI n - (1 : Int32)).toInt64) ↔ (0 ≤ y.toInt ∧ y.toInt < n) := by
  rw [fa_le64, fa_le64, Int32.toInt_toInt64, Int32.toInt_toInt64, lit_0L, fa_lit 1, pk_sub_toInt (by omega) (by omega)]
  omega
theorem e_noSt {N : Nat} (y : Int32) (hN : N ≤ 8) : f_X6_noStation y (nI N) = some (if 0 ≤ y.toInt ∧ y.toInt < N then 0 else 1) := by
  unfold f_X6_noStation
  rw [e_in]
  simp only [bnd1_some', no_iff y hN]
  by_cases h : 0 ≤ y.toInt ∧ y.toInt < N
  · simp [h]
  · simp [h]
theorem e_noLeg {n : Nat} {page : Nat → Int32} (y : Int32) (hn : n ≤ 8) (hp : page 0 = nI n) : f_X6_noLeg y page = some (if 0 ≤ y.toInt ∧ y.toInt < n then 0 else 1) := by
  unfold f_X6_noLeg
  rw [chk_0 (by omega) (by omega), show Int32.toNatClampNeg (0 : Int32) = 0 from rfl, hp, e_in]
  simp only [bnd1_some', no_iff y hn]
  by_cases h : 0 ≤ y.toInt ∧ y.toInt < n
  · simp [h]
  · simp [h]
/-- a cave of both sides -/
def CV (N n : Nat) (g : Nat → Nat → Nat) (size st : Int32) (rows : Nat → Int32) (stations : Int32) (page : Nat → Int32) : Prop := WF n N g ∧ RLg n N g rows size st ∧ RPg n g page ∧ stations = nI N
theorem in_a {a N : Nat} (h : a < N) (hN : N ≤ 8) : (0 ≤ (nI a).toInt ∧ (nI a).toInt < N) := by rw [nI_toInt (by omega)]; omega
theorem core_widest {N n F : Nat} {g : Nat → Nat → Nat} {size st stations : Int32} {rows page : Nat → Int32} (hF : 9 < F) (h : CV N n g size st rows stations page) (y1 y2 th : Int32) : ∃ r, f_X5_widest F y1 y2 size st rows = some r ∧ f_X6_widest F y1 y2 th stations page = some (r, 0) := by
  obtain ⟨hw, ⟨rfl, rfl, hr⟩, hp, rfl⟩ := h
  have hN : N ≤ 8 := by have := hw.2.2.1; omega
  have hN6 : N ≤ 6 := hw.2.2.1
  have hp2 : 2 ^ n ≤ 256 := p2_256 hw.1
  unfold f_X5_widest f_X6_widest f_X6_widest_J21
  rw [e_hasSt y1 hN, e_hasSt y2 hN, e_noSt y1 hN, e_noSt y2 hN]
  simp only [bnd1_some']
  rcases st_cases y1 hN with h1 | ⟨a, ha, rfl⟩
  · exact ⟨-1, by simp [h1], by simp [h1]⟩
  · rw [if_pos (in_a ha hN), if_pos (in_a ha hN)]
    rcases st_cases y2 hN with h2 | ⟨b, hb, rfl⟩
    · exact ⟨-1, by simp [h2], by simp [h2]⟩
    · rw [if_pos (in_a hb hN), if_pos (in_a hb hN), e_all0 hw.1, e_openOnes hw.wg hp]
      simp only [bnd1_some']
      rw [e_gw hF hw.wg hr (fun w => all_opn) (by omega) (by omega), e_wb hF hw.wg hp (opn_lt g 0 n) (by omega) (by omega)]
      exact ⟨nI (gw g n (opn g 0 n) a b), by simp [bnd1], by simp [bnd1]⟩
theorem core_come {N n F : Nat} {g : Nat → Nat → Nat} {size st stations : Int32} {rows page : Nat → Int32} (hF : 9 < F) (h : CV N n g size st rows stations page) (y th : Int32) : ∃ r, f_X5_come F y size rows = some r ∧ f_X6_come F y th page = some (r, 0) := by
  obtain ⟨hw, ⟨rfl, rfl, hr⟩, hp, rfl⟩ := h
  have hp2 : 2 ^ n ≤ 256 := p2_256 hw.1
  unfold f_X5_come f_X6_come f_X5_isGirth f_X0_reached
  rw [e_in]
  have l1 : (1 : Int64).toInt = 1 := by decide
  have l9 : (9 : Int64).toInt = 9 := by decide
  have k1 : (1 : Int32).toInt = 1 := by decide
  have k9 : (9 : Int32).toInt = 9 := by decide
  have e : ((1 : Int64) ≤ y.toInt64 ∧ y.toInt64 ≤ (9 : Int64)) ↔ (1 ≤ y.toInt ∧ y.toInt ≤ 9) := by rw [fa_le64, fa_le64, Int32.toInt_toInt64, l1, l9]
  simp only [bnd1_some', e, fa_lt, k1, k9]
  rcases tri y (M := 9) (by decide) with h0 | h0 | ⟨w, hw9, rfl⟩
  · refine ⟨-2, ?_, ?_⟩
    · rw [if_pos (by omega)]; rfl
    · rw [if_neg (show ¬ (1 ≤ y.toInt ∧ y.toInt ≤ 9) by omega)]; rfl
  · refine ⟨-2, ?_, ?_⟩
    · rw [if_neg (by omega), if_pos (by omega)]; rfl
    · rw [if_neg (show ¬ (1 ≤ y.toInt ∧ y.toInt ≤ 9) by omega)]; rfl
  · rw [nI_toInt (by omega)]
    by_cases h1 : 1 ≤ w
    · rw [if_neg (show ¬ (w : Int) < 1 by omega), if_neg (show ¬ (9 : Int) < w by omega), if_pos (show 1 ≤ (w : Int) ∧ (w : Int) ≤ 9 by omega), e_open (by omega) hw.wg hr (by omega), e_openOnes hw.wg hp]
      simp only [bnd1_some']
      have e2 := e_spread (set := 1) (show 8 < F by omega) hw.wg.lw (opn_lt g w n) (by omega) (fun l hl => (hr l hl).2)
      rw [show nI 1 = (1 : Int32) from rfl] at e2
      rw [e2, e_reached (by omega) hw.wg.lw (opn_lt g 0 n) (by omega) hw.wg.w hp.1 hp.2.2, wid_opn]
      exact ⟨_, rfl, rfl⟩
    · refine ⟨-2, ?_, ?_⟩
      · rw [if_pos (show (w : Int) < 1 by omega)]; rfl
      · rw [if_neg (show ¬ (1 ≤ (w : Int) ∧ (w : Int) ≤ 9) by omega)]; rfl
theorem core_count {N n F : Nat} {g : Nat → Nat → Nat} {size st stations : Int32} {rows page : Nat → Int32} (hF : 9 < F) (h : CV N n g size st rows stations page) (y th len dep sz : Int32) : ∃ r, f_X5_count F y len size st rows dep sz = some r ∧ f_X6_count y th len stations dep sz page = some (r, 0) := by
  obtain ⟨hw, ⟨rfl, rfl, hr⟩, hp, rfl⟩ := h
  have hp2 : 2 ^ n ≤ 256 := p2_256 hw.1
  unfold f_X5_count f_X6_count
  rw [chk_0 (by omega) (by omega), show Int32.toNatClampNeg (0 : Int32) = 0 from rfl, hp.1]
  have e2 : chk (1 : Int32) 50 (some (page (Int32.toNatClampNeg (1 : Int32)), (0 : Int32))) = some (nI (fm g n), 0) := by
    rw [show chk (1 : Int32) 50 (some (page (Int32.toNatClampNeg (1 : Int32)), (0 : Int32))) = some (page 1, (0 : Int32)) from chk_nI (i := 1) (by omega) (by omega), hp.2.1]
  have e3 := e_open (w := 1) (show 8 < F by omega) hw.wg hr (by omega)
  rw [show nI 1 = (1 : Int32) from rfl] at e3
  rw [e2, e_all0 hw.1, e3]
  simp only [bnd1_some']
  have e4 : nI (2 ^ n - 1) &&& (nI (opn g 1 n) ^^^ (-1 : Int32)) = nI (fm g n) := by
    rw [not_nI (by omega)]
    congr 1
    apply Nat.eq_of_testBit_eq
    intro i
    rw [ldiff_bit, all_bit, opn01 hw.wg, opn_bit, fm_msk (fun l hl => by have := hw.wg.2 l hl; omega), msk_bit]
    by_cases hi : i < n
    · have := hw.wg.2 i hi
      by_cases c : g i 6 = 0
      · simp [hi, c]
      · have c1 : g i 6 = 1 := by omega
        simp [hi, c1]
    · simp [hi]
  rw [e4]
  by_cases c0 : y = 0
  · exact ⟨len, by simp [c0], by simp [c0]⟩
  by_cases c1 : y = 1
  · exact ⟨nI N, by simp [c1], by simp [c1]⟩
  by_cases c2 : y = 2
  · exact ⟨nI n, by simp [c2], by simp [c2]⟩
  by_cases c3 : y = 3
  · exact ⟨nI (fm g n), by simp [c3], by simp [c3]⟩
  by_cases c4 : y = 4
  · exact ⟨dep, by simp [c4], by simp [c4]⟩
  by_cases c5 : y = 5
  · exact ⟨sz, by simp [c5], by simp [c5]⟩
  exact ⟨-2, by simp [c0, c1, c2, c3, c4, c5], by simp [c0, c1, c2, c3, c4, c5]⟩
