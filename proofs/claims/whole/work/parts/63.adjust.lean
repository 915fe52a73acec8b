/-! ===== the class's normal equations ===== -/
theorem vec_bd : ∀ t, t < 100 → ∀ b, b < 12 → ∀ s, s < 5 → ∀ ax, ax < 3 → (vecI t b s ax).toInt.natAbs ≤ 99 := by decide +kernel
def vI (g : Nat → Nat → Nat) (ax l : Nat) : Int := (vc g l ax).toInt
theorem vI_bd {n : Nat} {g : Nat → Nat → Nat} (hg : WG n g) {l ax : Nat} (hl : l < n) (hax : ax < 3) : (vI g ax l).natAbs ≤ 99 := by
  have h := hg.2 l hl
  exact vec_bd _ (by omega) _ (by omega) _ (by omega) ax hax
theorem vc_L (g : Nat → Nat → Nat) (l ax : Nat) : (vc g l ax).toInt64 = iL (vI g ax l) := rfl
theorem vc_nL {n : Nat} {g : Nat → Nat → Nat} (hg : WG n g) {l ax : Nat} (hl : l < n) (hax : ax < 3) : (- vc g l ax).toInt64 = iL (- vI g ax l) := by
  have h := vI_bd hg hl hax
  have e : (- vc g l ax).toInt = - vI g ax l := by
    rw [Int32.toInt_neg]
    unfold vI at h ⊢
    rw [Int.bmod_eq_of_le] <;> omega
  show Int64.ofInt (- vc g l ax).toInt = _
  rw [e]; rfl
theorem e_addTo {s c : Nat} (hs : s < 6) (hc : c ≤ 8) (x : Int64) (eq : Nat → Int64) : ∃ w, f_X3_addTo (nI s) (nI c - (1 : Int32)) x eq = some w ∧ ∀ i, i < 5 → ∀ j, j < 8 → w (8 * i + j) = eq (8 * i + j) + (if i + 1 = s ∧ j + 1 = c then x else 0) := by
  unfold f_X3_addTo
  by_cases h0 : s = 0
  · subst h0
    refine ⟨eq, ?_, fun i hi j hj => by rw [if_neg (by omega), Int64.add_zero]⟩
    rw [if_pos (show nI 0 < (1 : Int32) from nI_lt (b := 1) (by omega) (by omega))]
  · have g1 : ¬ nI s < (1 : Int32) := fun h => absurd ((nI_ltI (b := 1) (by omega) (by omega)).mp h) (by omega)
    have g2 : ¬ (5 : Int32) < nI s := fun h => absurd ((nI_ltI (a := 5) (by omega) (by omega)).mp h) (by omega)
    rw [if_neg g1, if_neg g2]
    by_cases h1 : c = 0
    · subst h1
      refine ⟨eq, ?_, fun i hi j hj => by rw [if_neg (by omega), Int64.add_zero]⟩
      rw [if_pos (show nI 0 - (1 : Int32) < 0 by decide)]
    · obtain ⟨c', rfl⟩ : ∃ c', c = c' + 1 := ⟨c - 1, by omega⟩
      obtain ⟨s', rfl⟩ : ∃ s', s = s' + 1 := ⟨s - 1, by omega⟩
      have g4 : ¬ (8 : Int32) ≤ nI c' := fun h => absurd ((nI_leI (a := 8) (by omega) (by omega)).mp h) (by omega)
      have e : nI s' * (8 : Int32) + nI c' = nI (8 * s' + c') := by rw [fa_lit 8, pk_mul, nI_add, Nat.mul_comm]
      rw [nI_s1, nI_s1, if_neg (nI_pos (by omega)), if_neg g4, e]
      simp (disch := omega) only [nmd, chk_nI, cl_nI]
      refine ⟨_, rfl, fun i hi j hj => ?_⟩
      by_cases d : i + 1 = s' + 1 ∧ j + 1 = c' + 1
      · obtain ⟨d1, d2⟩ := d
        have : i = s' := by omega
        have : j = c' := by omega
        subst i j
        rw [pk_uLs, if_pos ⟨rfl, rfl⟩]
      · rw [pk_uLn (by omega), if_neg d, Int64.add_zero]
/-- what a leg adds -/
def ent (g : Nat → Nat → Nat) (l i j : Nat) : Int := if j < 5 then el g l i * el g l j else vI g (j - 5) l * el g l i
def Eq8 (w eq : Nat → Int64) (d : Nat → Nat → Int) : Prop := ∀ i, i < 5 → ∀ j, j < 8 → w (8 * i + j) = eq (8 * i + j) + iL (d i j)
theorem it_L (c : Prop) [Decidable c] (x : Int) : (if c then iL x else 0) = iL (if c then x else 0) := by split <;> rfl
theorem enter_in {n F : Nat} {g : Nat → Nat → Nat} {rows : Nat → Int32} (hg : WG n g) (hr : RR n g rows) {l : Nat} (hl : l < n) : ∀ (k ax fuel : Nat) (eq : Nat → Int64), k + ax = 3 → k < fuel → ∃ w, f_X3_enter_L62 F rows fuel eq (nI l) (nI (g l 4)) (nI (g l 5)) (nI ax) = some w ∧ Eq8 w eq (fun i j => if 5 + ax ≤ j then vI g (j - 5) l * el g l i else 0) := by
  have h2 := hg.2 l hl
  intro k
  induction k with
  | zero =>
    intro ax fuel eq hk hf
    have e : ax = 3 := by omega
    subst e
    obtain ⟨f, rfl⟩ : ∃ f, fuel = f + 1 := ⟨fuel - 1, by omega⟩
    refine ⟨eq, ?_, fun i hi j hj => ?_⟩
    · show f_X3_enter_B62 F rows _ _ _ _ _ _ = _
      unfold f_X3_enter_B62
      rw [if_pos (show (3 : Int32) ≤ nI 3 from nI_le (Nat.le_refl 3) (by omega))]
    · show eq (8 * i + j) = eq (8 * i + j) + iL (if 5 + 3 ≤ j then _ else 0)
      rw [if_neg (by omega)]; exact (Int64.add_zero _).symm
  | succ k ih =>
    intro ax fuel eq hk hf
    obtain ⟨f, rfl⟩ : ∃ f, fuel = f + 1 := ⟨fuel - 1, by omega⟩
    have c : ¬ (3 : Int32) ≤ nI ax := fun h => absurd ((nI_leI (a := 3) (by omega) (by omega)).mp h) (by omega)
    have ec : (5 : Int32) + nI ax = nI (6 + ax) - 1 := by
      rw [show 6 + ax = (5 + ax) + 1 by omega, nI_s1, fa_lit 5, nI_add]
    obtain ⟨w1, a1, b1⟩ := e_addTo (s := g l 4) (c := 6 + ax) (by omega) (by omega) (iL (- vI g ax l)) eq
    obtain ⟨w2, a2, b2⟩ := e_addTo (s := g l 5) (c := 6 + ax) (by omega) (by omega) (iL (vI g ax l)) w1
    obtain ⟨w, h3, h4⟩ := ih (ax + 1) f w2 (by omega) (by omega)
    refine ⟨w, ?_, fun i hi j hj => ?_⟩
    · show f_X3_enter_B62 F rows (f_X3_enter_L62 F rows f) _ _ _ _ _ = _
      unfold f_X3_enter_B62
      have ev : f_X0_vector (nI l) (nI ax) rows = some (vc g l ax) := e_vector hg hr hl (by omega)
      rw [if_neg c, ev]
      simp only [bnd1_some']
      rw [vc_nL hg hl (by omega), vc_L, ec, a1]
      simp only [bnd1_some']
      rw [a2]
      simp only [bnd1_some', nmd, nI_1]
      exact h3
    · rw [h4 i hi j hj, b2 i hi j hj, b1 i hi j hj, it_L, it_L, Int64.add_assoc, Int64.add_assoc, iL_add, iL_add]
      congr 2
      show _ + (_ + (if 5 + (ax + 1) ≤ j then _ else 0)) = (if 5 + ax ≤ j then vI g (j - 5) l * el g l i else 0)
      by_cases d : j = 5 + ax
      · subst d
        rw [if_neg (show ¬ 5 + (ax + 1) ≤ 5 + ax by omega), if_pos (Nat.le_refl _), show 5 + ax - 5 = ax by omega]
        unfold el eL
        by_cases d1 : g l 4 = i + 1 <;> by_cases d2 : g l 5 = i + 1
        · omega
        · rw [if_pos ⟨d1.symm, by omega⟩, if_neg (fun h => d2 h.1.symm), if_neg d2, if_pos d1]; omega
        · rw [if_neg (fun h => d1 h.1.symm), if_pos ⟨d2.symm, by omega⟩, if_pos d2, if_neg d1]; omega
        · rw [if_neg (fun h => d1 h.1.symm), if_neg (fun h => d2 h.1.symm), if_neg d2, if_neg d1]; omega
      · rw [if_neg (by omega), if_neg (by omega), Int.zero_add, Int.zero_add]
        by_cases d2 : 5 + ax ≤ j
        · rw [if_pos d2, if_pos (by omega)]
        · rw [if_neg d2, if_neg (by omega)]
theorem ent_4 {f t i j : Nat} (hft : f ≠ t) (hj : j < 8) (hf : f < 6) (ht : t < 6) : ((if i + 1 = f ∧ j + 1 = f then (1 : Int) else 0) + ((if i + 1 = f ∧ j + 1 = t then (-1 : Int) else 0) + ((if i + 1 = t ∧ j + 1 = t then (1 : Int) else 0) + (if i + 1 = t ∧ j + 1 = f then (-1 : Int) else 0)))) = if j < 5 then eL f t (i + 1) * eL f t (j + 1) else 0 := by
  unfold eL
  by_cases c : j < 5
  · rw [if_pos c]
    by_cases a1 : i + 1 = f
    · have a2 : ¬ i + 1 = t := fun h => hft (by omega)
      by_cases b1 : j + 1 = f
      · have b2 : ¬ j + 1 = t := fun h => hft (by omega)
        simp [a1, b1, hft, hft.symm]
      · by_cases b2 : j + 1 = t
        · simp [a1, b2, hft, hft.symm]
        · simp [a1, b1, b2, hft, hft.symm, eq_comm, Ne.symm b1, Ne.symm b2]
    · by_cases a2 : i + 1 = t
      · by_cases b1 : j + 1 = f
        · simp [a2, b1, hft, hft.symm]
        · by_cases b2 : j + 1 = t
          · simp [a2, b2, hft, hft.symm]
          · simp [a2, b1, b2, hft, hft.symm, Ne.symm b1, Ne.symm b2]
      · simp [a1, a2, Ne.symm a1, Ne.symm a2]
  · rw [if_neg c, if_neg (by omega), if_neg (by omega), if_neg (by omega), if_neg (by omega)]; rfl
theorem e_enter {n F : Nat} {g : Nat → Nat → Nat} {rows : Nat → Int32} (hF : 8 < F) (hg : WG n g) (hr : RR n g rows) {l : Nat} (hl : l < n) (eq : Nat → Int64) : ∃ w, f_X3_enter F (nI l) eq rows = some w ∧ Eq8 w eq (ent g l) := by
  have h2 := hg.2 l hl
  have hn := hg.1
  obtain ⟨w1, a1, b1⟩ := e_addTo (s := g l 4) (c := g l 4) (by omega) (by omega) (1 : Int64) eq
  obtain ⟨w2, a2, b2⟩ := e_addTo (s := g l 4) (c := g l 5) (by omega) (by omega) (-1 : Int64) w1
  obtain ⟨w3, a3, b3⟩ := e_addTo (s := g l 5) (c := g l 5) (by omega) (by omega) (1 : Int64) w2
  obtain ⟨w4, a4, b4⟩ := e_addTo (s := g l 5) (c := g l 4) (by omega) (by omega) (-1 : Int64) w3
  obtain ⟨w, h3, h4⟩ := enter_in (F := F) hg hr hl 3 0 F w4 (by omega) (by omega)
  refine ⟨w, ?_, fun i hi j hj => ?_⟩
  · unfold f_X3_enter
    rw [show f_X0_get (nI l) (4 : Int32) rows = some (nI (g l 4)) from g_row (j := 4) hr hn hl (by omega), show f_X0_get (nI l) (5 : Int32) rows = some (nI (g l 5)) from g_row (j := 5) hr hn hl (by omega)]
    simp only [bnd1_some']
    rw [a1]; simp only [bnd1_some']
    rw [a2]; simp only [bnd1_some']
    rw [a3]; simp only [bnd1_some']
    rw [a4]; simp only [bnd1_some']
    exact h3
  · have e1 : (1 : Int64) = iL 1 := rfl
    have e2 : (-1 : Int64) = iL (-1) := rfl
    rw [h4 i hi j hj, b4 i hi j hj, b3 i hi j hj, b2 i hi j hj, b1 i hi j hj, e2, e1, it_L, it_L, it_L, it_L]
    rw [Int64.add_assoc, Int64.add_assoc, Int64.add_assoc, Int64.add_assoc, iL_add, iL_add, iL_add, iL_add]
    congr 2
    have e4 := ent_4 (f := g l 4) (t := g l 5) (i := i) (j := j) (by omega) hj (by omega) (by omega)
    unfold ent el
    show _ + (_ + (_ + (_ + (if 5 + 0 ≤ j then vI g (j - 5) l * eL (g l 4) (g l 5) (i + 1) else 0)))) = _
    by_cases c : j < 5
    · rw [if_pos c] at e4 ⊢
      rw [if_neg (show ¬ 5 + 0 ≤ j by omega), Int.add_zero]
      exact e4
    · rw [if_neg c] at e4 ⊢
      rw [if_pos (show 5 + 0 ≤ j by omega), ← Int.add_assoc, ← Int.add_assoc, ← Int.add_assoc]
      rw [← Int.add_assoc, ← Int.add_assoc] at e4
      rw [e4, Int.zero_add]
