/-! ===== longs of whole numbers ===== -/
def iL (x : Int) : Int64 := Int64.ofInt x
theorem iL_add (a b : Int) : iL a + iL b = iL (a + b) := (Int64.ofInt_add a b).symm
theorem iL_sub (a b : Int) : iL a - iL b = iL (a - b) := (Int64.ofInt_sub a b).symm
theorem iL_mul (a b : Int) : iL a * iL b = iL (a * b) := (Int64.ofInt_mul a b).symm
theorem iL_int {a : Int} (h : a.natAbs < 2 ^ 63) : (iL a).toInt = a := Int64.toInt_ofInt_of_le (by omega) (by omega)
theorem iL_ne {a : Int} (h : a.natAbs < 2 ^ 63) (h0 : a ≠ 0) : ¬ iL a = (0 : Int64) := fun e => h0 (by
  have := congrArg Int64.toInt e
  rw [iL_int h, lit_0L] at this; exact this)
theorem iL_div {a b q : Int} (ha : a.natAbs < 2 ^ 63) (hb : b.natAbs < 2 ^ 63) (h0 : b ≠ 0) (e : a = q * b) : iL a / iL b = iL q := by
  have h := Int64.ofInt_tdiv (a := a) (b := b) (by rw [Int64.toInt_minValue]; omega) (by rw [Int64.toInt_maxValue]; omega) (by rw [Int64.toInt_minValue]; omega) (by rw [Int64.toInt_maxValue]; omega)
  show Int64.ofInt a / Int64.ofInt b = Int64.ofInt q
  rw [← h, e, Int.mul_tdiv_cancel q h0]
theorem nI_s1 (c : Nat) : nI (c + 1) - (1 : Int32) = nI c := by rw [← nI_1 c, Int32.add_sub_cancel]
/-! ===== the class's elimination ===== -/
theorem e_entry {i j : Nat} (eq : Nat → Int64) (hi : i < 5) (hj : j < 8) : f_X3_entry (nI i) (nI j) eq = some (eq (8 * i + j)) := by
  unfold f_X3_entry
  have e : nI i * (8 : Int32) + nI j = nI (8 * i + j) := by rw [fa_lit 8, pk_mul, nI_add, Nat.mul_comm]
  rw [e, chk_nI (by omega) (by omega), cl_nI (by omega)]
  rw [if_neg (nI_pos (by omega)), if_neg (by rw [fa_lit 5]; exact nI_ge hi (by omega)), if_neg (nI_pos (by omega)), if_pos (by rw [fa_lit 8]; exact nI_lt hj (by omega))]
theorem elim_in {F i p : Nat} {dv P Q : Int64} (hi : i < 5) (hp : p < 5) (hip : i ≠ p) (hd : ¬ dv = (0 : Int64)) : ∀ (k j fuel : Nat) (eq : Nat → Int64), k + j = 8 → k < fuel → ∃ w, f_X3_eliminate_L11 F dv fuel eq (nI i) (nI p) P Q (nI j) = some w ∧ ∀ r, r < 5 → ∀ c, c < 8 → w (8 * r + c) = if r = i ∧ j ≤ c then (P * eq (8 * i + c) - Q * eq (8 * p + c)) / dv else eq (8 * r + c) := by
  intro k
  induction k with
  | zero =>
    intro j fuel eq hk hf
    have e : j = 8 := by omega
    subst e
    obtain ⟨f, rfl⟩ : ∃ f, fuel = f + 1 := ⟨fuel - 1, by omega⟩
    refine ⟨eq, ?_, fun r hr c hc => by rw [if_neg (by omega)]⟩
    show f_X3_eliminate_B11 F dv _ _ _ _ _ _ _ = _
    unfold f_X3_eliminate_B11
    rw [if_pos (show (8 : Int32) ≤ nI 8 from nI_le (Nat.le_refl 8) (by omega))]
  | succ k ih =>
    intro j fuel eq hk hf
    obtain ⟨f, rfl⟩ : ∃ f, fuel = f + 1 := ⟨fuel - 1, by omega⟩
    obtain ⟨w, h1, h2⟩ := ih (j + 1) f (vp_updL eq (8 * i + j) ((P * eq (8 * i + j) - Q * eq (8 * p + j)) / dv)) (by omega) (by omega)
    refine ⟨w, ?_, fun r hr c hc => ?_⟩
    · show f_X3_eliminate_B11 F dv (f_X3_eliminate_L11 F dv f) _ _ _ _ _ _ = _
      unfold f_X3_eliminate_B11 f_X3_eliminate_J83
      have c : ¬ (8 : Int32) ≤ nI j := fun h => absurd ((nI_leI (a := 8) (by omega) (by omega)).mp h) (by omega)
      have e : nI i * (8 : Int32) + nI j = nI (8 * i + j) := by rw [fa_lit 8, pk_mul, nI_add, Nat.mul_comm]
      have c1 : ¬ nI (8 * i + j) < (0 : Int32) := nI_pos (by omega)
      have c2 : ¬ (40 : Int32) ≤ nI (8 * i + j) := fun h => absurd ((nI_leI (a := 40) (by omega) (by omega)).mp h) (by omega)
      rw [if_neg c, e]
      simp only [nmd]
      rw [if_neg hd, if_neg c1, if_neg c2, chk_nI (by omega) (by omega), e_entry eq hp (by omega)]
      simp (disch := omega) only [bnd1_some', chk_nI, cl_nI, nI_1]
      unfold chkDL
      rw [if_neg hd]
      exact h1
    · rw [h2 r hr c hc]
      by_cases c1 : r = i ∧ j + 1 ≤ c
      · rw [if_pos c1, if_pos ⟨c1.1, by omega⟩, pk_uLn (by omega), pk_uLn (by omega)]
      · rw [if_neg c1]
        by_cases e : r = i ∧ c = j
        · obtain ⟨rfl, rfl⟩ := e
          rw [pk_uLs, if_pos ⟨rfl, Nat.le_refl _⟩]
        · rw [pk_uLn (by omega), if_neg (by omega)]
theorem e_elim {F i p : Nat} {dv P : Int64} {eq : Nat → Int64} (hF : 8 < F) (hi : i < 5) (hp : p < 5) (hip : i ≠ p) (hd : ¬ dv = (0 : Int64)) : ∃ w, f_X3_eliminate F (nI i) (nI p) P dv eq = some w ∧ ∀ r, r < 5 → ∀ c, c < 8 → w (8 * r + c) = if r = i then (P * eq (8 * i + c) - eq (8 * i + p) * eq (8 * p + c)) / dv else eq (8 * r + c) := by
  obtain ⟨w, h1, h2⟩ := elim_in (F := F) (P := P) (Q := eq (8 * i + p)) hi hp hip hd 8 0 F eq (by omega) (by omega)
  refine ⟨w, ?_, fun r hr c hc => ?_⟩
  · unfold f_X3_eliminate
    rw [e_entry eq hi (by omega)]
    exact h1
  · rw [h2 r hr c hc]
    by_cases e : r = i
    · rw [if_pos ⟨e, Nat.zero_le c⟩, if_pos e]
    · rw [if_neg (fun h => e h.1), if_neg e]
theorem solve_in {F p : Nat} {dv P : Int64} {kb : Int64 → (Nat → Int64) → Int32 → Option (Int64 × (Nat → Int64))} (hF : 8 < F) (hp : p < 5) (hd : ¬ dv = (0 : Int64)) : ∀ (k i fuel : Nat) (eq : Nat → Int64), k + i = 5 → k < fuel → ∃ w, f_X3_solve_L22 F kb fuel dv eq (nI p) P (nI i) = kb P w (nI (p + 1)) ∧ ∀ r, r < 5 → ∀ c, c < 8 → w (8 * r + c) = if r ≠ p ∧ i ≤ r then (P * eq (8 * r + c) - eq (8 * r + p) * eq (8 * p + c)) / dv else eq (8 * r + c) := by
  intro k
  induction k with
  | zero =>
    intro i fuel eq hk hf
    have e : i = 5 := by omega
    subst e
    obtain ⟨f, rfl⟩ : ∃ f, fuel = f + 1 := ⟨fuel - 1, by omega⟩
    refine ⟨eq, ?_, fun r hr c hc => by rw [if_neg (by omega)]⟩
    show f_X3_solve_B22 F kb _ _ _ _ _ _ = _
    unfold f_X3_solve_B22
    rw [if_pos (show (5 : Int32) ≤ nI 5 from nI_le (Nat.le_refl 5) (by omega))]
    simp only [nmd, nI_1]
  | succ k ih =>
    intro i fuel eq hk hf
    obtain ⟨f, rfl⟩ : ∃ f, fuel = f + 1 := ⟨fuel - 1, by omega⟩
    have c : ¬ (5 : Int32) ≤ nI i := fun h => absurd ((nI_leI (a := 5) (by omega) (by omega)).mp h) (by omega)
    by_cases e : i = p
    · subst e
      obtain ⟨w, h1, h2⟩ := ih (i + 1) f eq (by omega) (by omega)
      refine ⟨w, ?_, fun r hr c hc => ?_⟩
      · show f_X3_solve_B22 F kb (f_X3_solve_L22 F kb f) _ _ _ _ _ = _
        unfold f_X3_solve_B22 f_X3_solve_J42
        rw [if_neg c, if_pos rfl]
        simp only [nmd, nI_1]
        exact h1
      · rw [h2 r hr c hc]
        by_cases d : r ≠ i ∧ i + 1 ≤ r
        · rw [if_pos d, if_pos ⟨d.1, by omega⟩]
        · rw [if_neg d, if_neg (by omega)]
    · obtain ⟨w0, g1, g2⟩ := e_elim (P := P) (eq := eq) hF (by omega : i < 5) hp e hd
      obtain ⟨w, h1, h2⟩ := ih (i + 1) f w0 (by omega) (by omega)
      refine ⟨w, ?_, fun r hr c hc => ?_⟩
      · show f_X3_solve_B22 F kb (f_X3_solve_L22 F kb f) _ _ _ _ _ = _
        unfold f_X3_solve_B22 f_X3_solve_J42
        rw [if_neg c, if_neg (fun h => e ((nI_eq (by omega) (by omega)).mp h)), g1]
        simp only [bnd1_some', nmd, nI_1]
        exact h1
      · rw [h2 r hr c hc, g2 r hr c hc, g2 r hr p (by omega), g2 p hp c hc, if_neg (show ¬ p = i from fun h => e h.symm)]
        by_cases d : r ≠ p ∧ i + 1 ≤ r
        · rw [if_pos d, if_neg (show ¬ r = i by omega), if_neg (show ¬ r = i by omega), if_pos (show r ≠ p ∧ i ≤ r from ⟨d.1, by omega⟩)]
        · rw [if_neg d]
          by_cases d2 : r = i
          · subst d2
            rw [if_pos rfl, if_pos ⟨e, Nat.le_refl _⟩]
          · rw [if_neg d2, if_neg (by omega)]
/-- the table behind p pivots -/
def Ev (A : Nat → Nat → Int) (p i j : Nat) : Int := if i < p then cX p A (Ap A j) i else cM p A (Ap A j) i
theorem Ev_step {A : Nat → Nat → Int} {p : Nat} (h : Cr p A) (h1 : dt (p + 1) A ≠ 0) {i j : Nat} (hi : i ≠ p) : dt (p + 1) A * Ev A p i j - Ev A p i p * Ev A p p j = Ev A (p + 1) i j * dt p A := by
  have ep : Ev A p p j = cM p A (Ap A j) p := if_neg (Nat.lt_irrefl p)
  rw [ep]
  unfold Ev
  by_cases c : i < p
  · rw [if_pos c, if_pos c, if_pos (by omega), Int.mul_comm (cX (p + 1) A (Ap A j) i), up_x h h1 _ c]
  · rw [if_neg c, if_neg c, if_neg (by omega), Int.mul_comm (cM (p + 1) A (Ap A j) i), up_m h h1]
theorem Ev_same {A : Nat → Nat → Int} {p j : Nat} : Ev A (p + 1) p j = Ev A p p j := by
  unfold Ev
  rw [if_pos (by omega), if_neg (by omega), cX_last]
theorem Ev_pp {A : Nat → Nat → Int} {p : Nat} : Ev A p p p = dt (p + 1) A := by
  unfold Ev
  rw [if_neg (by omega), dt_next]
theorem Ev_0 {A : Nat → Nat → Int} {i j : Nat} : Ev A 0 i j = A i j := by
  unfold Ev
  rw [if_neg (by omega)]
  unfold cM Ap
  show 1 * A i j - 0 = A i j
  rw [Int.one_mul, Int.sub_zero]
theorem bb_x : ∀ p, p < 6 → ∀ i, i < 5 → Bd p (fun c => if c = i then 792 else 9) ≤ 700000000 := by decide +kernel
theorem bb_d : ∀ p, p < 6 → Bd p (fun _ => 9) ≤ 700000000 := by decide +kernel
theorem bb_m : ∀ p, p < 5 → Bd p (fun _ => 9) * 792 + fb_sm (fun k => 9 * Bd p (fun c => if c = k then 792 else 9)) p ≤ 700000000 := by decide +kernel
/-- entries: at most 9, what is on the right at most 792 -/
def Sm (A : Nat → Nat → Int) : Prop := ∀ r, r < 5 → ∀ c, (c < 5 → (A r c).natAbs ≤ 9) ∧ (c < 8 → (A r c).natAbs ≤ 792)
theorem dt_700 {A : Nat → Nat → Int} (h : Sm A) {p : Nat} (hp : p ≤ 5) : (dt p A).natAbs ≤ 700000000 := Nat.le_trans (dt_bd p (w := fun _ => 9) (fun r hr c hc => (h r (by omega) c).1 (by omega))) (bb_d p (by omega))
theorem cX_bd {A : Nat → Nat → Int} (h : Sm A) {p i j : Nat} (hp : p ≤ 5) (hj : j < 8) : (cX p A (Ap A j) i).natAbs ≤ Bd p (fun c => if c = i then 792 else 9) := dt_bd p (fun r hr c hc => by
  by_cases e : c = i
  · rw [e, rp_s, if_pos rfl]; exact (h r (by omega) j).2 hj
  · rw [rp_n _ _ _ e, if_neg e]; exact (h r (by omega) c).1 (by omega))
theorem Ev_bd {A : Nat → Nat → Int} (h : Sm A) {p i j : Nat} (hp : p ≤ 5) (hi : i < 5) (hj : j < 8) : (Ev A p i j).natAbs ≤ 700000000 := by
  unfold Ev
  by_cases c : i < p
  · rw [if_pos c]
    exact Nat.le_trans (cX_bd h hp hj) (bb_x p (by omega) i hi)
  · rw [if_neg c]
    unfold cM
    have h1 := ab_mul (dt_bd p (A := A) (w := fun _ => 9) (fun r hr c hc => (h r (by omega) c).1 (by omega))) ((h i hi j).2 hj)
    have h2 : (sg (fun k => A i k * cX p A (Ap A j) k) p).natAbs ≤ fb_sm (fun k => 9 * Bd p (fun c => if c = k then 792 else 9)) p := sg_ab (fun k hk => ab_mul ((h i hi k).1 (by omega)) (cX_bd h hp hj))
    have h3 := bb_m p (by omega)
    have e : Ap A j i = A i j := rfl
    rw [e]
    omega
theorem big_mul {x y : Int} (hx : x.natAbs ≤ 700000000) (hy : y.natAbs ≤ 700000000) : (x * y).natAbs ≤ 490000000000000000 := ab_mul hx hy
theorem solve_out {F : Nat} {A : Nat → Nat → Int} (hF : 8 < F) (h : Sm A) (hd : ∀ q, q ≤ 5 → 0 < dt q A) : ∀ (k p fuel : Nat) (eq : Nat → Int64), k + p = 5 → k < fuel → (∀ i, i < 5 → ∀ j, j < 8 → eq (8 * i + j) = iL (Ev A p i j)) → ∃ w, f_X3_solve_L7 F fuel (iL (dt p A)) eq (nI p) = some (iL (dt 5 A), w) ∧ ∀ i, i < 5 → ∀ j, j < 8 → w (8 * i + j) = iL (Ev A 5 i j) := by
  intro k
  induction k with
  | zero =>
    intro p fuel eq hk hf he
    have e : p = 5 := by omega
    subst e
    obtain ⟨f, rfl⟩ : ∃ f, fuel = f + 1 := ⟨fuel - 1, by omega⟩
    refine ⟨eq, ?_, he⟩
    show f_X3_solve_B7 F _ _ _ _ = _
    unfold f_X3_solve_B7
    rw [if_pos (show (5 : Int32) ≤ nI 5 from nI_le (Nat.le_refl 5) (by omega))]
  | succ k ih =>
    intro p fuel eq hk hf he
    obtain ⟨f, rfl⟩ : ∃ f, fuel = f + 1 := ⟨fuel - 1, by omega⟩
    have hp : p < 5 := by omega
    have hd0 := hd p (by omega)
    have hd1 := hd (p + 1) (by omega)
    have hb0 := dt_700 h (p := p) (by omega)
    have hb1 := dt_700 h (p := p + 1) (by omega)
    have hc : Cr p A := cr_all (fun q hq => by have := hd q (by omega); omega)
    have c : ¬ (5 : Int32) ≤ nI p := fun h => absurd ((nI_leI (a := 5) (by omega) (by omega)).mp h) (by omega)
    have ep : eq (8 * p + p) = iL (dt (p + 1) A) := by rw [he p hp p (by omega), Ev_pp]
    obtain ⟨w, h1, h2⟩ := solve_in (F := F) (P := iL (dt (p + 1) A)) (kb := f_X3_solve_L7 F f) hF hp (iL_ne (a := dt p A) (by omega) (by omega)) 5 0 F eq (by omega) (by omega)
    have he' : ∀ i, i < 5 → ∀ j, j < 8 → w (8 * i + j) = iL (Ev A (p + 1) i j) := by
      intro i hi j hj
      rw [h2 i hi j hj]
      by_cases e : i = p
      · rw [if_neg (fun h => h.1 e), e, he p hp j hj, Ev_same]
      · rw [if_pos ⟨e, Nat.zero_le i⟩, he i hi j hj, he i hi p (by omega), he p hp j hj, iL_mul, iL_mul, iL_sub]
        have b1 := big_mul hb1 (Ev_bd h (p := p) (by omega) hi hj)
        have b2 := big_mul (Ev_bd h (p := p) (i := i) (j := p) (by omega) hi (by omega)) (Ev_bd h (p := p) (i := p) (by omega) hp hj)
        exact iL_div (by omega) (by omega) (by omega) (Ev_step hc (by omega) e)
    obtain ⟨w2, g1, g2⟩ := ih (p + 1) f w (by omega) (by omega) he'
    refine ⟨w2, ?_, g2⟩
    show f_X3_solve_B7 F (f_X3_solve_L7 F f) _ _ _ = _
    unfold f_X3_solve_B7
    rw [if_neg c, e_entry eq hp (by omega), bnd1_some', ep]
    exact h1.trans g1
theorem e_solve {F : Nat} {A : Nat → Nat → Int} {eq : Nat → Int64} (hF : 8 < F) (h : Sm A) (hd : ∀ q, q ≤ 5 → 0 < dt q A) (dv : Int64) (he : ∀ i, i < 5 → ∀ j, j < 8 → eq (8 * i + j) = iL (A i j)) : ∃ w, f_X3_solve F dv eq = some (iL (dt 5 A), w) ∧ ∀ i, i < 5 → ∀ j, j < 8 → w (8 * i + j) = iL (cX 5 A (Ap A j) i) := by
  obtain ⟨w, h1, h2⟩ := solve_out hF h hd 5 0 F eq (by omega) (by omega) (fun i hi j hj => by rw [he i hi j hj, Ev_0])
  refine ⟨w, h1, fun i hi j hj => ?_⟩
  rw [h2 i hi j hj]
  unfold Ev
  rw [if_pos hi]
