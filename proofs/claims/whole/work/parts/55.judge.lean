/-! ===== closes, and the items of judge ===== -/
theorem WF.h6 {n N : Nat} {g : Nat → Nat → Nat} (h : WF n N g) : ∀ l, l < n → g l 6 ≤ 1 := fun l hl => by have := h.2.2.2 l hl; omega
def clo (g : Nat → Nat → Nat) (n l : Nat) : Bool := (con g n (2 ^ n - 1)).testBit (g l 4) && (decide (mis g n l 0 = 0) && (decide (mis g n l 1 = 0) && decide (mis g n l 2 = 0)))
theorem e_closes5 {n F : Nat} {g : Nat → Nat → Nat} {rows pl : Nat → Int32} (hF : 100 < F) (hg : WG n g) (hr : RR n g rows) {l : Nat} (hl : l < n) : ∃ w, f_X3_closes F (nI l) pl (nI n) rows = some (if clo g n l = true then 1 else 0, w) := by
  have hn := hg.1
  have hp2 : 2 ^ n ≤ 256 := p2_256 hg.1
  have h2 := Nat.one_le_two_pow (n := n)
  have hK := con_lt hg.lw (show 2 ^ n - 1 < 2 ^ n by omega)
  have hm := msk_lt (tch g (con g n (2 ^ n - 1))) n
  obtain ⟨p1, e1, d1⟩ := e_plot (F := F) (P := pl) (by omega) hg hr
  unfold f_X3_closes
  rw [e_connected (by omega) hg hr]
  simp only [bnd1_some']
  rw [e_touching (by omega) hg hr hK]
  simp only [bnd1_some']
  rw [e_holds (by omega) (by omega), e1, msk_bit, con_tch hg.lw (show 2 ^ n - 1 < 2 ^ n by omega) hl (all_in hl)]
  simp only [bnd1_some', hl, decide_true, Bool.true_and, i01]
  unfold clo
  cases hb : (con g n (2 ^ n - 1)).testBit (g l 4) with
  | false => exact ⟨pl, rfl⟩
  | true =>
    refine ⟨p1, ?_⟩
    rw [if_neg (by decide)]
    obtain ⟨f, rfl⟩ : ∃ f, F = f + 4 := ⟨F - 4, by omega⟩
    have m0 := e_misc hg hr d1 hl (show 0 < 3 by omega)
    have m1 := e_misc hg hr d1 hl (show 1 < 3 by omega)
    have m2 := e_misc hg hr d1 hl (show 2 < 3 by omega)
    rw [show nI 0 = (0 : Int32) from rfl] at m0
    rw [show nI 1 = (1 : Int32) from rfl] at m1
    rw [show nI 2 = (2 : Int32) from rfl] at m2
    show f_X3_closes_B24 (f + 4) (nI n) rows (f_X3_closes_L24 (f + 4) (nI n) rows (f + 3)) p1 (nI l) (0 : Int32) = _
    unfold f_X3_closes_B24
    rw [if_neg (show ¬ (3 : Int32) ≤ 0 by decide), m0]
    simp only [bnd1_some', nmd]
    by_cases c0 : mis g n l 0 = 0
    · rw [if_pos c0]
      show f_X3_closes_B24 (f + 4) (nI n) rows (f_X3_closes_L24 (f + 4) (nI n) rows (f + 2)) p1 (nI l) (1 : Int32) = _
      unfold f_X3_closes_B24
      rw [if_neg (show ¬ (3 : Int32) ≤ 1 by decide), m1]
      simp only [bnd1_some', nmd]
      by_cases c1 : mis g n l 1 = 0
      · rw [if_pos c1]
        show f_X3_closes_B24 (f + 4) (nI n) rows (f_X3_closes_L24 (f + 4) (nI n) rows (f + 1)) p1 (nI l) (2 : Int32) = _
        unfold f_X3_closes_B24
        rw [if_neg (show ¬ (3 : Int32) ≤ 2 by decide), m2]
        simp only [bnd1_some', nmd]
        by_cases c2 : mis g n l 2 = 0
        · rw [if_pos c2]
          simp [c0, c1, c2]
          rfl
        · rw [if_neg c2]; simp [c2]
      · rw [if_neg c1]; simp [c1]
    · rw [if_neg c0]; simp [c0]
theorem e_closes6 {n F : Nat} {g : Nat → Nat → Nat} {page sines ra : Nat → Int32} (hF : 100 < F) (hg : WG n g) (hp : PP n g page) (hsn : ∀ j, j < 12 → sines j = sinT j) {l : Nat} (hl : l < n) : ∃ w, f_X6_closes F (nI l) sines ra page = some (if clo g n l = true then 1 else 0, w) := by
  have hn := hg.1
  have hp2 : 2 ^ n ≤ 256 := p2_256 hg.1
  have h2 := Nat.one_le_two_pow (n := n)
  have hK := con_lt hg.lw (show 2 ^ n - 1 < 2 ^ n by omega)
  obtain ⟨p1, e1, d1⟩ := e_layOut (F := F) (P := ra) (by omega) hg hp hsn
  unfold f_X6_closes
  rw [e_all6 hn hp.1]
  simp only [bnd1_some']
  rw [e_tied (by omega) hg (by omega) hp, show rch g (2 ^ n - 1) n 6 1 = con g n (2 ^ n - 1) from rfl]
  simp only [bnd1_some']
  have m0 := e_missOf hg hp hsn d1 hl (show 0 < 3 by omega)
  have m1 := e_missOf hg hp hsn d1 hl (show 1 < 3 by omega)
  have m2 := e_missOf hg hp hsn d1 hl (show 2 < 3 by omega)
  rw [show nI 0 = (0 : Int32) from rfl] at m0
  rw [show nI 1 = (1 : Int32) from rfl] at m1
  rw [show nI 2 = (2 : Int32) from rfl] at m2
  rw [e_tiedLeg hg hp hK hl, e1]
  simp only [bnd1_some', i01, m0, m1, m2]
  unfold clo
  cases hb : (con g n (2 ^ n - 1)).testBit (g l 4) with
  | false => exact ⟨ra, rfl⟩
  | true =>
    refine ⟨p1, ?_⟩
    by_cases c0 : mis g n l 0 = 0 <;> by_cases c1 : mis g n l 1 = 0 <;> by_cases c2 : mis g n l 2 = 0 <;> simp [c0, c1, c2]
/-- a statement of judge -/
def jst (g : Nat → Nat → Nat) (n N h a b c : Nat) : Bool :=
  if h = 4 then decide (a < N ∧ b < N ∧ c ≤ gw g n (opn g 0 n) a b)
  else if h = 5 then decide (c = 0 ∧ lps g n = nI (10 * a + b))
  else if h = 6 then decide (a < n ∧ b = 0 ∧ c = 0) && clo g n a
  else if h = 7 then decide (a < N ∧ 0 < b ∧ c ≤ 1 ∧ ((rch g (opn g b n) n 6 1).testBit a = decide (c = 1)))
  else false
theorem hs_nI {N a : Nat} (hN : N ≤ 8) (ha : a < 10) : f_X0_hasStation (nI a) (nI N) = some (if a < N then 1 else 0) := by
  rw [e_hasSt _ hN, nI_toInt (by omega)]
  by_cases c : a < N
  · rw [if_pos c, if_pos (by omega)]
  · rw [if_neg c, if_neg (by omega)]
theorem hl_nI {n a : Nat} (hn : n ≤ 8) (ha : a < 10) : f_X0_has (nI a) (nI n) = some (if a < n then 1 else 0) := hs_nI hn ha
theorem ns_nI {N a : Nat} (hN : N ≤ 8) (ha : a < 10) : f_X6_noStation (nI a) (nI N) = some (if a < N then 0 else 1) := by
  rw [e_noSt _ hN, nI_toInt (by omega)]
  by_cases c : a < N
  · rw [if_pos c, if_pos (by omega)]
  · rw [if_neg c, if_neg (by omega)]
theorem ten_nI (b c : Nat) : (10 : Int32) * nI b + nI c = nI (10 * b + c) := by rw [fa_lit 10, pk_mul, nI_add]
theorem isTrue_4 {n N F : Nat} {g : Nat → Nat → Nat} {rows pl : Nat → Int32} (hF : 100 < F) (hw : WF n N g) (hr : RR n g rows) {a b c : Nat} (ha : a < 10) (hb : b < 10) (hc : c < 10) : f_X5_isTrue F (nI 4) (nI a) (nI b) (nI c) pl (nI n) (nI N) rows = some (if jst g n N 4 a b c = true then 1 else 0, pl) := by
  have hN := hw.2.2.1
  unfold f_X5_isTrue
  rw [if_pos (show nI 4 = (4 : Int32) from rfl), hs_nI (by omega) ha, hs_nI (by omega) hb, e_all0 hw.1]
  simp only [bnd1_some']
  unfold jst
  rw [if_pos rfl]
  by_cases c1 : a < N
  · by_cases c2 : b < N
    · rw [if_pos c1, if_pos c2, e_gw (by omega) hw.wg hr (fun w => all_opn) (by omega) (by omega)]
      simp only [bnd1_some']
      have hgl := gw_le g n (opn g 0 n) a b
      by_cases c3 : c ≤ gw g n (opn g 0 n) a b
      · rw [if_neg (nI_nlt c3 (by omega))]; simp [c1, c2, c3]
      · rw [if_pos (nI_lt (by omega) (by omega))]; simp [c3]
    · simp [c1, c2]
  · simp [c1]
theorem isTrue_5 {n N F : Nat} {g : Nat → Nat → Nat} {rows pl : Nat → Int32} (hF : 100 < F) (hw : WF n N g) (hr : RR n g rows) {a b c : Nat} (ha : a < 10) (hb : b < 10) (hc : c < 10) : f_X5_isTrue F (nI 5) (nI a) (nI b) (nI c) pl (nI n) (nI N) rows = some (if jst g n N 5 a b c = true then 1 else 0, pl) := by
  unfold f_X5_isTrue
  rw [if_neg (show ¬ nI 5 = (4 : Int32) by decide), if_pos (show nI 5 = (5 : Int32) from rfl), e_loops0 (by omega) hw.wg hr, ten_nI]
  simp only [bnd1_some', show (nI c = (0 : Int32)) ↔ c = 0 from nI_eq (b := 0) (by omega) (by omega)]
  unfold jst
  rw [if_neg (show ¬ 5 = 4 by decide), if_pos rfl]
  by_cases c1 : c = 0 <;> by_cases c2 : lps g n = nI (10 * a + b) <;> simp [c1, c2]
theorem isTrue_6 {n N F : Nat} {g : Nat → Nat → Nat} {rows pl : Nat → Int32} (hF : 100 < F) (hw : WF n N g) (hr : RR n g rows) {a b c : Nat} (ha : a < 10) (hb : b < 10) (hc : c < 10) : ∃ w, f_X5_isTrue F (nI 6) (nI a) (nI b) (nI c) pl (nI n) (nI N) rows = some (if jst g n N 6 a b c = true then 1 else 0, w) := by
  unfold f_X5_isTrue
  rw [if_neg (show ¬ nI 6 = (4 : Int32) by decide), if_neg (show ¬ nI 6 = (5 : Int32) by decide), if_pos (show nI 6 = (6 : Int32) from rfl), hl_nI hw.1 ha]
  simp only [bnd1_some', show (nI c = (0 : Int32)) ↔ c = 0 from nI_eq (b := 0) (by omega) (by omega), show (nI b = (0 : Int32)) ↔ b = 0 from nI_eq (b := 0) (by omega) (by omega)]
  unfold jst
  rw [if_neg (show ¬ 6 = 4 by decide), if_neg (show ¬ 6 = 5 by decide), if_pos rfl]
  by_cases c1 : a < n
  · by_cases c2 : b = 0
    · by_cases c3 : c = 0
      · obtain ⟨w, ew⟩ := e_closes5 (F := F) (pl := pl) hF hw.wg hr c1
        refine ⟨w, ?_⟩
        rw [if_pos c1, if_pos c2, if_pos c3, ew]
        cases clo g n a <;> simp [c1, c2, c3, bnd2]
      · exact ⟨pl, by simp [c3]⟩
    · exact ⟨pl, by simp [c2]⟩
  · exact ⟨pl, by simp [c1]⟩
theorem isTrue_7 {n N F : Nat} {g : Nat → Nat → Nat} {rows pl : Nat → Int32} (hF : 100 < F) (hw : WF n N g) (hr : RR n g rows) {a b c : Nat} (ha : a < 10) (hb : b < 10) (hc : c < 10) : f_X5_isTrue F (nI 7) (nI a) (nI b) (nI c) pl (nI n) (nI N) rows = some (if jst g n N 7 a b c = true then 1 else 0, pl) := by
  have hN := hw.2.2.1
  have hp2 : 2 ^ n ≤ 256 := p2_256 hw.1
  unfold f_X5_isTrue f_X5_isTrue_J193 f_X0_reached
  rw [if_neg (show ¬ nI 7 = (4 : Int32) by decide), if_neg (show ¬ nI 7 = (5 : Int32) by decide), if_neg (show ¬ nI 7 = (6 : Int32) by decide), if_pos (show nI 7 = (7 : Int32) from rfl), hs_nI (by omega) ha, e_open (by omega) hw.wg hr (by omega)]
  simp only [bnd1_some']
  rw [e_spread1 (by omega) hw.wg (opn_lt g b n) hr]
  simp only [bnd1_some', show (nI c = (1 : Int32)) ↔ c = 1 from nI_eq (b := 1) (by omega) (by omega), show (nI b ≤ (0 : Int32)) ↔ b ≤ 0 from nI_leI (b := 0) (by omega) (by omega), show ((1 : Int32) < nI c) ↔ 1 < c from nI_ltI (a := 1) (by omega) (by omega)]
  unfold jst
  rw [if_neg (show ¬ 7 = 4 by decide), if_neg (show ¬ 7 = 5 by decide), if_neg (show ¬ 7 = 6 by decide), if_pos rfl]
  have hlt := rch_lt hw.wg.lw (opn_lt g b n) 6 1 (by omega)
  by_cases c1 : a < N
  · rw [if_pos c1, e_holds (by omega) (by omega)]
    simp only [bnd1_some']
    by_cases c2 : b ≤ 0
    · have : ¬ 0 < b := by omega
      simp [c2]
      exact fun _ q => absurd q this
    · have c2' : 0 < b := by omega
      by_cases c3 : 1 < c
      · have : ¬ c ≤ 1 := by omega
        simp [c2, c3, this]
      · have c3' : c ≤ 1 := by omega
        by_cases c4 : c = 1 <;> cases (rch g (opn g b n) n 6 1).testBit a <;> simp [c1, c2, c2', c3, c3', c4]
  · simp [c1]
theorem isTrue_89 {n N F h : Nat} {rows pl : Nat → Int32} (a b c : Int32) (hh : h = 8 ∨ h = 9) : f_X5_isTrue F (nI h) a b c pl (nI n) (nI N) rows = some (0, pl) := by
  rcases hh with rfl | rfl
  · unfold f_X5_isTrue
    rw [if_neg (show ¬ nI 8 = (4 : Int32) by decide), if_neg (show ¬ nI 8 = (5 : Int32) by decide), if_neg (show ¬ nI 8 = (6 : Int32) by decide), if_neg (show ¬ nI 8 = (7 : Int32) by decide)]
  · unfold f_X5_isTrue
    rw [if_neg (show ¬ nI 9 = (4 : Int32) by decide), if_neg (show ¬ nI 9 = (5 : Int32) by decide), if_neg (show ¬ nI 9 = (6 : Int32) by decide), if_neg (show ¬ nI 9 = (7 : Int32) by decide)]
theorem e_isTrue {n N F : Nat} {g : Nat → Nat → Nat} {rows pl : Nat → Int32} (hF : 100 < F) (hw : WF n N g) (hr : RR n g rows) {h a b c : Nat} (h4 : 4 ≤ h) (h9 : h < 10) (ha : a < 10) (hb : b < 10) (hc : c < 10) : ∃ w, f_X5_isTrue F (nI h) (nI a) (nI b) (nI c) pl (nI n) (nI N) rows = some (if jst g n N h a b c = true then 1 else 0, w) := by
  have q : h = 4 ∨ h = 5 ∨ h = 6 ∨ h = 7 ∨ (h = 8 ∨ h = 9) := by omega
  rcases q with rfl | rfl | rfl | rfl | q
  · exact ⟨pl, isTrue_4 hF hw hr ha hb hc⟩
  · exact ⟨pl, isTrue_5 hF hw hr ha hb hc⟩
  · exact isTrue_6 hF hw hr ha hb hc
  · exact ⟨pl, isTrue_7 hF hw hr ha hb hc⟩
  · refine ⟨pl, ?_⟩
    rw [isTrue_89 _ _ _ q]
    unfold jst
    rw [if_neg (show ¬ h = 4 by omega), if_neg (show ¬ h = 5 by omega), if_neg (show ¬ h = 6 by omega), if_neg (show ¬ h = 7 by omega)]
    rfl
/-! the reference's statements -/
theorem does_pre {F n : Nat} {trial sines ra : Nat → Int32} (h0 : trial 0 = nI n) (hn : n ≤ 8) (st x1 : Int32) {a b c : Nat} (ha : a < 10) : f_X6_does F x1 (nI a) (nI b) (nI c) st trial sines ra = f_X6_does_J24 F st sines trial ra x1 (nI a) (nI b) (nI c) (nI (10 * b + c)) (if a < n then 1 else 0) := by
  unfold f_X6_does
  have c0 : ∀ {α : Type} (x : Option α), chk (0 : Int32) 50 x = x := fun x => chk_0 (by omega) (by omega)
  simp only [nmd, c0, show Int32.toNatClampNeg (0 : Int32) = 0 from rfl, h0, ten_nI, show (nI n ≤ nI a) ↔ n ≤ a from nI_leI (by omega) (by omega)]
  by_cases c : a < n
  · rw [if_pos c, if_neg (show ¬ n ≤ a by omega)]
  · rw [if_neg c, if_pos (show n ≤ a by omega)]
theorem does_st {n N F : Nat} {g : Nat → Nat → Nat} {trial sines ra : Nat → Int32} (hF : F = 1000) (hw : WF n N g) (hp : PP n g trial) (hsn : ∀ j, j < 12 → sines j = sinT j) {h a b c : Nat} (h4 : 4 ≤ h) (h9 : h < 10) (ha : a < 10) (hb : b < 10) (hc : c < 10) : ∃ w, f_X6_does F (nI h) (nI a) (nI b) (nI c) (nI N) trial sines ra = some (if jst g n N h a b c = true then 1 else 0, trial, w) := by
  have hN := hw.2.2.1
  have hn := hw.1
  have hp2 : 2 ^ n ≤ 256 := p2_256 hw.1
  have hO := opn_lt g 0 n
  rw [does_pre hp.1 hn _ _ ha]
  unfold f_X6_does_J24 f_X6_does_J294
  have q1 : ¬ nI h = (1 : Int32) := fun e => absurd ((nI_eq (b := 1) (by omega) (by omega)).mp e) (by omega)
  have q2 : ¬ nI h = (2 : Int32) := fun e => absurd ((nI_eq (b := 2) (by omega) (by omega)).mp e) (by omega)
  have q3 : ¬ nI h = (3 : Int32) := fun e => absurd ((nI_eq (b := 3) (by omega) (by omega)).mp e) (by omega)
  have q4 : (nI h = (4 : Int32)) ↔ h = 4 := nI_eq (b := 4) (by omega) (by omega)
  have q5 : (nI h = (5 : Int32)) ↔ h = 5 := nI_eq (b := 5) (by omega) (by omega)
  have q6 : (nI h = (6 : Int32)) ↔ h = 6 := nI_eq (b := 6) (by omega) (by omega)
  have q7 : (nI h = (7 : Int32)) ↔ h = 7 := nI_eq (b := 7) (by omega) (by omega)
  rw [if_neg q1, if_neg q2, if_neg q3]
  simp only [q4, q5, q6, q7]
  rw [ns_nI (by omega) ha, ns_nI (by omega) hb, e_openOnes hw.wg hp, e_loops6 hF hw.wg hp, ten_nI]
  simp only [bnd1_some', show (nI c = (0 : Int32)) ↔ c = 0 from nI_eq (b := 0) (by omega) (by omega), show (nI (10 * b + c) = (0 : Int32)) ↔ 10 * b + c = 0 from nI_eq (b := 0) (by omega) (by omega), show (nI c = (1 : Int32)) ↔ c = 1 from nI_eq (b := 1) (by omega) (by omega), show (nI b ≤ (0 : Int32)) ↔ b ≤ 0 from nI_leI (b := 0) (by omega) (by omega), show ((2 : Int32) ≤ nI c) ↔ 2 ≤ c from nI_leI (a := 2) (by omega) (by omega)]
  rw [e_reached (by omega) hw.wg.lw hO (by omega) hw.wg.w hp.1 hp.2.2, wid_opn]
  simp only [bnd1_some']
  unfold jst
  have hlt := rch_lt hw.wg.lw (opn_lt g b n) 6 1 (by omega)
  by_cases d4 : h = 4
  · refine ⟨ra, ?_⟩
    rw [if_pos d4, if_pos d4]
    by_cases c1 : a < N
    · by_cases c2 : b < N
      · rw [if_pos c1, if_pos c2, if_pos rfl, e_wb (by omega) hw.wg hp hO (by omega) (by omega)]
        simp only [bnd1_some']
        have hgl := gw_le g n (opn g 0 n) a b
        by_cases c3 : c ≤ gw g n (opn g 0 n) a b
        · rw [if_neg (nI_nlt c3 (by omega))]; simp [c1, c2, c3]
        · rw [if_pos (nI_lt (by omega) (by omega))]; simp [c3]
      · simp [c1, c2]
    · simp [c1]
  rw [if_neg d4, if_neg d4]
  by_cases d5 : h = 5
  · refine ⟨ra, ?_⟩
    rw [if_pos d5, if_pos d5]
    by_cases c1 : c = 0 <;> by_cases c2 : lps g n = nI (10 * a + b) <;> simp [c1, c2]
  rw [if_neg d5, if_neg d5]
  by_cases d6 : h = 6
  · rw [if_pos d6, if_pos d6]
    by_cases c1 : a < n
    · by_cases c2 : 10 * b + c = 0
      · obtain ⟨w, ew⟩ := e_closes6 (F := F) (ra := ra) (by omega) hw.wg hp hsn c1
        refine ⟨w, ?_⟩
        have c3 : b = 0 := by omega
        have c4 : c = 0 := by omega
        rw [if_pos c1, if_neg (by decide), if_pos c2, ew]
        cases clo g n a <;> simp [c1, c3, c4, bnd2]
      · have c3 : ¬ (a < n ∧ b = 0 ∧ c = 0) := by omega
        refine ⟨ra, ?_⟩
        rw [if_pos c1, if_neg (by decide), if_neg c2]
        simp only [c3, decide_false, Bool.false_and]
        rfl
    · exact ⟨ra, by simp [c1]⟩
  rw [if_neg d6, if_neg d6]
  by_cases d7 : h = 7
  · refine ⟨ra, ?_⟩
    rw [if_pos d7, if_pos d7]
    by_cases c1 : a < N
    · rw [if_pos c1, if_pos rfl, e_has6 (by omega) (by omega)]
      simp only [bnd1_some']
      by_cases c2 : b ≤ 0
      · have : ¬ 0 < b := by omega
        simp [c2]
        exact fun _ q => absurd q this
      · have c2' : 0 < b := by omega
        by_cases c3 : 2 ≤ c
        · have : ¬ c ≤ 1 := by omega
          simp [c2, c3, this]
        · have c3' : c ≤ 1 := by omega
          by_cases c4 : c = 1 <;> cases (rch g (opn g b n) n 6 1).testBit a <;> simp [c1, c2, c2', c3, c3', c4]
    · simp [c1]
  rw [if_neg d7, if_neg d7]
  exact ⟨ra, rfl⟩
