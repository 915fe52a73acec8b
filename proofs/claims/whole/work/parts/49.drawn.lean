/-! ===== the walk ===== -/
def lcg (s : Int64) : Int64 := s * (6364136223846793005 : Int64) + (1442695040888963407 : Int64)
theorem lcg_eq (s : Int64) : s * (6364136223846793005 : Int64) + (1442695040888963407 : Int64) = lcg s := rfl
def shn (t : Int64) : Nat := t.toUInt64.toNat / 2 ^ 33
theorem shn_lt (t : Int64) : shn t < 2 ^ 31 := by
  have := t.toUInt64.toNat_lt
  unfold shn
  omega
theorem ushr33 (t : Int64) : ushrL t (33 : Int32) = lN (shn t) := by
  unfold ushrL shn
  have h : ((33 : Int32).toInt64.toUInt64 &&& Int64.toUInt64 63).toNat % 64 = 33 := by decide
  have e : (t.toUInt64 >>> ((33 : Int32).toInt64.toUInt64 &&& Int64.toUInt64 63)).toNat = t.toUInt64.toNat / 2 ^ 33 := by
    rw [UInt64.toNat_shiftRight, Nat.shiftRight_eq_div_pow, h]
  have hlt := t.toUInt64.toNat_lt
  have e2 : (t.toUInt64 >>> ((33 : Int32).toInt64.toUInt64 &&& Int64.toUInt64 63)) = UInt64.ofNat (t.toUInt64.toNat / 2 ^ 33) := by
    apply UInt64.toNat_inj.mp
    rw [e]
    show _ = _ % 2 ^ 64
    omega
  rw [e2]
  rfl
/-- where a step leads: leg i, from a station -/
def walkN (g : Nat → Nat → Nat) (n a r : Nat) : Nat := if n = 0 then a else if g (r % n) 6 = 0 then (if a = g (r % n) 4 then g (r % n) 5 else if a = g (r % n) 5 then g (r % n) 4 else a) else a
theorem walkN_lt {n : Nat} {g : Nat → Nat → Nat} (hg : WG n g) {a r : Nat} (ha : a < 6) : walkN g n a r < 6 := by
  unfold walkN
  by_cases h0 : n = 0
  · rw [if_pos h0]; exact ha
  · have hl : r % n < n := Nat.mod_lt _ (by omega)
    have := hg.2 _ hl
    rw [if_neg h0]
    split
    · split
      · omega
      · split <;> omega
    · exact ha
theorem e_walked {n : Nat} {g : Nat → Nat → Nat} {rows : Nat → Int32} (hg : WG n g) (hr : RR n g rows) {a r : Nat} (ha : a < 6) (hr31 : r < 2 ^ 31) : f_X5_walked (nI a) (lN r) (nI n) rows = some (nI (walkN g n a r)) := by
  have hn := hg.1
  unfold f_X5_walked walkN
  by_cases h0 : n = 0
  · subst h0; rfl
  · have hl : r % n < n := Nat.mod_lt _ (by omega)
    have h2 := hg.2 _ hl
    rw [if_pos (show (1 : Int32) ≤ nI n from nI_le (a := 1) (by omega) (by omega)), if_neg h0, nI_l (by omega)]
    have hne : ¬ lN n = 0 := fun h => h0 ((pk_lEQ (b := 0) (by omega) (by omega)).mp h)
    unfold chkDL remL
    rw [if_neg hne, pk_lRem (by omega) (by omega) (by omega)]
    simp only [nmd, lN_i]
    rw [show (6 : Int32) = nI 6 from rfl, show (4 : Int32) = nI 4 from rfl, show (5 : Int32) = nI 5 from rfl, g_row hr hn hl (by omega), g_row hr hn hl (by omega), g_row hr hn hl (by omega)]
    simp only [bnd1_some']
    by_cases c : g (r % n) 6 = 0
    · rw [c, if_pos (show nI 0 = (0 : Int32) from rfl), if_pos rfl]
      by_cases c4 : a = g (r % n) 4
      · rw [if_pos (by rw [← c4]), if_pos c4]
      · rw [if_neg (fun h => c4 ((nI_eq (by omega) (by omega)).mp h)), if_neg c4]
        by_cases c5 : a = g (r % n) 5
        · rw [if_pos (by rw [← c5]), if_pos c5]
        · rw [if_neg (fun h => c5 ((nI_eq (by omega) (by omega)).mp h)), if_neg c5]
    · rw [if_neg (show ¬ nI (g (r % n) 6) = (0 : Int32) from fun h => c ((nI_eq (b := 0) (by omega) (by omega)).mp h)), if_neg c]
/-- k steps: the seed, the station, how often away -/
def walkA (g : Nat → Nat → Nat) (n : Nat) : Nat → Int64 → Nat → Int32 → Int32 × Int64
  | 0, s, _, w => (w, s)
  | k + 1, s, a, w => walkA g n k (lcg s) (walkN g n a (shn (lcg s))) (if walkN g n a (shn (lcg s)) = 0 then w else w + 1)
theorem drawn_5 {n F M : Nat} {g : Nat → Nat → Nat} {rows : Nat → Int32} (hg : WG n g) (hr : RR n g rows) (hM : M ≤ 40) : ∀ (k t fuel a : Nat) (s : Int64) (w : Int32), k + t = M → k < fuel → a < 6 → f_X5_drawn_L21 F (nI n) rows fuel s (nI M) (nI a) w (nI t) = some (walkA g n k s a w) := by
  intro k
  induction k with
  | zero =>
    intro t fuel0 a s w hk hf ha
    obtain ⟨fuel, rfl⟩ : ∃ f, fuel0 = f + 1 := ⟨fuel0 - 1, by omega⟩
    have e : t = M := by omega
    subst e
    show f_X5_drawn_B21 F (nI n) rows _ _ _ _ _ _ = _
    unfold f_X5_drawn_B21
    rw [if_pos (nI_le (Nat.le_refl _) (by omega))]
    rfl
  | succ k ih =>
    intro t fuel0 a s w hk hf ha
    obtain ⟨fuel, rfl⟩ : ∃ f, fuel0 = f + 1 := ⟨fuel0 - 1, by omega⟩
    show f_X5_drawn_B21 F (nI n) rows (f_X5_drawn_L21 F (nI n) rows fuel) _ _ _ _ _ = _
    unfold f_X5_drawn_B21 f_X5_drawn_J63
    rw [if_neg (nI_ge (by omega) (by omega)), lcg_eq]
    simp only [nmd, nI_1]
    have hs := (⟨shn_lt _, ushr33 _⟩ : shn (lcg s) < 2 ^ 31 ∧ ushrL (lcg s) (33 : Int32) = lN (shn (lcg s)))
    rw [hs.2, e_walked hg hr ha hs.1]
    simp only [bnd1_some']
    have hlt := walkN_lt hg (r := (shn (lcg s))) ha
    unfold walkA
    by_cases c : walkN g n a (shn (lcg s)) = 0
    · rw [if_pos (by rw [c]; rfl), if_pos c]
      exact ih (t + 1) fuel _ _ _ (by omega) (by omega) hlt
    · rw [if_neg (show ¬ nI _ = (0 : Int32) from fun h => c ((nI_eq (b := 0) (by omega) (by omega)).mp h)), if_neg c]
      exact ih (t + 1) fuel _ _ _ (by omega) (by omega) hlt
theorem e_step6 {n : Nat} {g : Nat → Nat → Nat} {page : Nat → Int32} {ρ : Type} (K : Int32 → Option ρ) (hg : WG n g) (hp : PP n g page) {a r : Nat} (ha : a < 6) (hr : r < 2 ^ 31) : chk (0 : Int32) 50 (if (page (Int32.toNatClampNeg (0 : Int32))) ≤ (0 : Int32) then K (nI a) else (bnd1 (f_X6_openOnes page) (fun r9 => chk (0 : Int32) 50 (chkD (page (Int32.toNatClampNeg (0 : Int32))) (bnd1 (f_X6_has r9 (remI (nI r) (page (Int32.toNatClampNeg (0 : Int32))))) (fun r13 => if r13 = (0 : Int32) then K (nI a) else (chk (0 : Int32) 50 (chkD (page (Int32.toNatClampNeg (0 : Int32))) (bnd1 (f_X6_of (remI (nI r) (page (Int32.toNatClampNeg (0 : Int32)))) (4 : Int32) page) (fun r18 => chk (0 : Int32) 50 (chkD (page (Int32.toNatClampNeg (0 : Int32))) (bnd1 (f_X6_of (remI (nI r) (page (Int32.toNatClampNeg (0 : Int32)))) (5 : Int32) page) (fun r22 => if nI a = r18 then K r22 else (if nI a = r22 then K r18 else K (nI a))))))))))))))) = K (nI (walkN g n a r)) := by
  have hn := hg.1
  have hp2 : 2 ^ n ≤ 256 := p2_256 hn
  have hO := opn_lt g 0 n
  rw [show Int32.toNatClampNeg (0 : Int32) = 0 from rfl, hp.1]
  simp only [chk_0 (show 0 < 50 by omega) (show 50 < 2 ^ 31 by omega)]
  unfold walkN
  by_cases h0 : n = 0
  · subst h0
    rw [if_pos rfl]
    rfl
  · have hl : r % n < n := Nat.mod_lt _ (by omega)
    have h2 := hg.2 _ hl
    have hne : ¬ nI n = (0 : Int32) := nI_ne0 (by omega) (by omega)
    have er : remI (nI r) (nI n) = nI (r % n) := pk_rem hr (by omega) (by omega)
    have o4 : f_X6_of (nI (r % n)) (4 : Int32) page = some (nI (g (r % n) 4)) := by rw [← hp.2.2 _ hl 4 (by omega)]; exact e_of (j := 4) page (by omega) (by omega)
    have o5 : f_X6_of (nI (r % n)) (5 : Int32) page = some (nI (g (r % n) 5)) := by rw [← hp.2.2 _ hl 5 (by omega)]; exact e_of (j := 5) page (by omega) (by omega)
    have hd : ∀ {α : Type} (x : Option α), chkD (nI n) x = x := fun x => if_neg hne
    rw [if_neg (nI_nle (by omega) (by omega)), e_openOnes hg hp, if_neg h0]
    simp only [bnd1_some', hd, er]
    rw [e_has6 (by omega) (by omega), o4, o5]
    simp only [bnd1_some', i01]
    by_cases c : g (r % n) 6 = 0
    · have hb : (opn g 0 n).testBit (r % n) = true := by rw [opn_bit]; simp [hl, c]
      rw [hb, if_neg (by decide), if_pos c]
      by_cases c4 : a = g (r % n) 4
      · rw [if_pos (by rw [← c4]), if_pos c4]
      · rw [if_neg (fun h => c4 ((nI_eq (by omega) (by omega)).mp h)), if_neg c4]
        by_cases c5 : a = g (r % n) 5
        · rw [if_pos (by rw [← c5]), if_pos c5]
        · rw [if_neg (fun h => c5 ((nI_eq (by omega) (by omega)).mp h)), if_neg c5]
    · have hb : (opn g 0 n).testBit (r % n) = false := by rw [opn_bit]; simp [c]
      rw [hb, if_pos rfl, if_neg c]
theorem drawn_6 {n F M : Nat} {g : Nat → Nat → Nat} {page : Nat → Int32} (th : Int32) (hg : WG n g) (hp : PP n g page) (hM : M ≤ 40) : ∀ (k t fuel a : Nat) (s : Int64) (w : Int32), k + t = M → k < fuel → a < 6 → f_X6_drawn_L27 F page fuel th s (nI M) (nI a) w (nI t) = some ((walkA g n k s a w).1, th, (walkA g n k s a w).2) := by
  intro k
  induction k with
  | zero =>
    intro t fuel0 a s w hk hf ha
    obtain ⟨fuel, rfl⟩ : ∃ f, fuel0 = f + 1 := ⟨fuel0 - 1, by omega⟩
    have e : t = M := by omega
    subst e
    show f_X6_drawn_B27 F page _ _ _ _ _ _ _ = _
    unfold f_X6_drawn_B27
    rw [if_pos (nI_le (Nat.le_refl _) (by omega))]
    rfl
  | succ k ih =>
    intro t fuel0 a s w hk hf ha
    obtain ⟨fuel, rfl⟩ : ∃ f, fuel0 = f + 1 := ⟨fuel0 - 1, by omega⟩
    show f_X6_drawn_B27 F page (f_X6_drawn_L27 F page fuel) _ _ _ _ _ _ = _
    unfold f_X6_drawn_B27
    rw [if_neg (nI_ge (by omega) (by omega)), lcg_eq]
    simp only [nmd]
    rw [ushr33, lN_i]
    refine (e_step6 (K := fun v => f_X6_drawn_J152 F page (f_X6_drawn_L27 F page fuel) th (lcg s) (nI M) v w (nI t)) hg hp ha (shn_lt (lcg s))).trans ?_
    have hlt := walkN_lt hg (r := shn (lcg s)) ha
    unfold f_X6_drawn_J152 f_X6_drawn_J162 walkA
    have w0 : w + (0 : Int32) = w := by simp
    simp only [nmd, nI_1, w0]
    by_cases c : walkN g n a (shn (lcg s)) = 0
    · rw [if_pos (by rw [c]; rfl), if_pos c]
      exact ih (t + 1) fuel _ _ _ (by omega) (by omega) hlt
    · rw [if_neg (show ¬ nI _ = (0 : Int32) from fun h => c ((nI_eq (b := 0) (by omega) (by omega)).mp h)), if_neg c]
      exact ih (t + 1) fuel _ _ _ (by omega) (by omega) hlt
theorem core_drawn {N n F : Nat} {g : Nat → Nat → Nat} {size st stations : Int32} {rows page : Nat → Int32} (hF : 40 < F) (h : CV N n g size st rows stations page) (y th : Int32) (s : Int64) : ∃ r s', f_X5_drawn F y s size rows = some (r, s') ∧ f_X6_drawn F y th s page = some (r, 0, s') := by
  obtain ⟨hw, ⟨rfl, rfl, hr⟩, hp, rfl⟩ := h
  unfold f_X5_drawn f_X6_drawn
  rw [e_in]
  have l1 : (1 : Int64).toInt = 1 := by decide
  have l9 : (40 : Int64).toInt = 40 := by decide
  have k1 : (1 : Int32).toInt = 1 := by decide
  have k9 : (40 : Int32).toInt = 40 := by decide
  have e : ((1 : Int64) ≤ y.toInt64 ∧ y.toInt64 ≤ (40 : Int64)) ↔ (1 ≤ y.toInt ∧ y.toInt ≤ 40) := by rw [fa_le64, fa_le64, Int32.toInt_toInt64, l1, l9]
  simp only [bnd1_some', e, fa_lt, fa_le, k1, k9]
  by_cases h1 : y.toInt < 1
  · exact ⟨-2, s, by rw [if_pos h1], by rw [if_neg (show ¬ (1 ≤ y.toInt ∧ y.toInt ≤ 40) by omega)]; rfl⟩
  · by_cases h2 : y.toInt ≤ 40
    · obtain ⟨M, hM, rfl⟩ : ∃ M : Nat, M ≤ 40 ∧ y = nI M := ⟨y.toInt.toNat, by omega, by rw [fa_eq, nI_toInt (by omega)]; omega⟩
      refine ⟨(walkA g n M s 0 0).1, (walkA g n M s 0 0).2, ?_, ?_⟩
      · rw [if_neg h1, if_pos h2]
        exact drawn_5 hw.wg hr hM M 0 F 0 s 0 (by omega) (by omega) (by omega)
      · rw [if_pos (show 1 ≤ (nI M).toInt ∧ (nI M).toInt ≤ 40 by omega)]
        exact drawn_6 0 hw.wg hp hM M 0 F 0 s 0 (by omega) (by omega) (by omega)
    · exact ⟨-2, s, by rw [if_neg h1, if_neg h2], by rw [if_neg (show ¬ (1 ≤ y.toInt ∧ y.toInt ≤ 40) by omega)]; rfl⟩
