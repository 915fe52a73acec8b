/-! ===== legs that can be left out ===== -/
def Sl (n l : Nat) : Nat := ldiff (2 ^ n - 1) (2 ^ l)
theorem Sl_lt (n l : Nat) : Sl n l < 2 ^ n := ldiff_lt (all_lt n)
def spP (g : Nat → Nat → Nat) (n l : Nat) : Bool := decide (con g n (Sl n l) = con g n (2 ^ n - 1))
theorem Sl_nI {n l : Nat} (hn : n ≤ 8) (hl : l < 8) : nI (2 ^ n - 1) &&& (shlI (1 : Int32) (nI l) ^^^ (-1 : Int32)) = nI (Sl n l) := by
  have hp2 : 2 ^ n ≤ 256 := p2_256 hn
  rw [shl_nI (by omega), not_nI (by omega)]
  rfl
theorem con_eqI {n : Nat} {g : Nat → Nat → Nat} (hw : LW n g) {S T : Nat} (hS : S < 2 ^ n) (hT : T < 2 ^ n) : (nI (con g n S) = nI (con g n T)) ↔ con g n S = con g n T := nI_eq (by have := con_lt hw hS; omega) (by have := con_lt hw hT; omega)
theorem spare_in {n F : Nat} {g : Nat → Nat → Nat} {rows : Nat → Int32} (hF : 8 < F) (hg : WG n g) (hr : RR n g rows) : ∀ (k l fuel : Nat), k + l = n → k < fuel → f_X0_spare_L9 F (nI n) rows fuel (nI (msk (spP g n) l)) (nI (con g n (2 ^ n - 1))) (nI l) = some (nI (msk (spP g n) n)) := by
  have hn := hg.1
  intro k
  induction k with
  | zero =>
    intro l fuel hk hf
    have e : l = n := by omega
    subst e
    obtain ⟨f, rfl⟩ : ∃ f, fuel = f + 1 := ⟨fuel - 1, by omega⟩
    show f_X0_spare_B9 F (nI l) rows _ _ _ _ = _
    unfold f_X0_spare_B9
    rw [if_pos (nI_le (Nat.le_refl l) (by omega))]
  | succ k ih =>
    intro l fuel hk hf
    obtain ⟨f, rfl⟩ : ∃ f, fuel = f + 1 := ⟨fuel - 1, by omega⟩
    have hl : l < n := by omega
    have c : ¬ nI n ≤ nI l := nI_ge hl (by omega)
    have hi := ih (l + 1) f (by omega) (by omega)
    show f_X0_spare_B9 F (nI n) rows (f_X0_spare_L9 F (nI n) rows f) _ _ _ = _
    unfold f_X0_spare_B9 f_X0_spare_J42
    rw [if_neg c, e_all0 hn]
    simp only [bnd1_some', Sl_nI hn (show l < 8 by omega)]
    rw [e_spread1 hF hg (Sl_lt n l) hr, show rch g (Sl n l) n 6 1 = con g n (Sl n l) from rfl]
    simp only [bnd1_some', nmd, nI_1, con_eqI hg.lw (Sl_lt n l) (all_lt n)]
    by_cases d : con g n (Sl n l) = con g n (2 ^ n - 1)
    · have hb : spP g n l = true := decide_eq_true d
      rw [if_pos d, shl_nI (by omega), fa_or, msk_or hb]
      exact hi
    · have hb : spP g n l = false := decide_eq_false d
      rw [if_neg d]
      rw [msk_no hb] at hi
      exact hi
theorem e_spare {n F : Nat} {g : Nat → Nat → Nat} {rows : Nat → Int32} (hF : 8 < F) (hg : WG n g) (hr : RR n g rows) : f_X0_spare F (nI n) rows = some (nI (msk (spP g n) n)) := by
  unfold f_X0_spare
  rw [e_connected hF hg hr]
  have hn := hg.1
  exact spare_in hF hg hr n 0 F (by omega) (by omega)
theorem spare_bit {g : Nat → Nat → Nat} {n l : Nat} (hl : l < n) : (msk (spP g n) n).testBit l = spP g n l := by
  rw [msk_bit]; simp [hl]
/-! sides of two fractions held against each other -/
def Tl (g : Nat → Nat → Nat) (n l : Nat) : Int := sr g n (Sl n l)
def Bl (g : Nat → Nat → Nat) (n l : Nat) : Int := DD g n (Sl n l)
theorem up_q {x : Int} {y : Nat} (hy : 0 < y) (hy2 : y < 2 ^ 62) (hx : x.natAbs < 2 ^ 62) : ∃ (u : Int) (d : Nat), x = u * (Nat.gcd y x.natAbs : Nat) ∧ y = d * Nat.gcd y x.natAbs ∧ sd 1 x y = iL u ∧ sd 0 x y = iL d := by
  have g0 := Nat.gcd_pos_of_pos_left x.natAbs hy
  have gy : Nat.gcd y x.natAbs ≤ y := Nat.gcd_le_left _ hy
  obtain ⟨q, hq⟩ := dvd_I (Nat.gcd_dvd_right y x.natAbs)
  obtain ⟨d, hd⟩ := Nat.gcd_dvd_left y x.natAbs
  refine ⟨q, d, by rw [Int.mul_comm]; exact hq, by rw [Nat.mul_comm]; exact hd, ?_, ?_⟩
  · unfold sd
    rw [if_neg (show ¬ (1 : Int32) = 0 by decide), lN_iL (show Nat.gcd y x.natAbs < 2 ^ 63 by omega)]
    exact iL_div (by omega) (by omega) (by omega) (by rw [Int.mul_comm]; exact hq)
  · unfold sd
    rw [if_pos rfl, lN_iL (show Nat.gcd y x.natAbs < 2 ^ 63 by omega), lN_iL (show y < 2 ^ 63 by omega)]
    refine iL_div (by omega) (by omega) (by omega) ?_
    have : ((y : Nat) : Int) = ((Nat.gcd y x.natAbs * d : Nat) : Int) := congrArg _ hd
    rw [this, Int.natCast_mul, Int.mul_comm]
theorem le_mulI {a b c : Int} (hc : 0 < c) : (c * a ≤ c * b) ↔ a ≤ b := by
  constructor
  · intro h; exact Int.le_of_mul_le_mul_left h hc
  · intro h; exact Int.mul_le_mul_of_nonneg_left h (by omega)
theorem nab {a b c d : Nat} (h1 : a ≤ b) (h2 : c ≤ d) : a * c ≤ b * d := Nat.mul_le_mul h1 h2
theorem cmp5 {n : Nat} {g : Nat → Nat → Nat} (hg : WG n g) (b l : Nat) : (iL (SS g n (Sl n b)) * iL (Bl g n l * Bl g n l) ≤ iL (SS g n (Sl n l)) * iL (Bl g n b * Bl g n b)) ↔ Tl g n b * Bl g n l ≤ Tl g n l * Bl g n b := by
  obtain ⟨b1, b2⟩ := DD_14 hg.lw (Sl_lt n b)
  obtain ⟨l1, l2⟩ := DD_14 hg.lw (Sl_lt n l)
  obtain ⟨b3, b4⟩ := sr_bd hg (Sl_lt n b)
  obtain ⟨l3, l4⟩ := sr_bd hg (Sl_lt n l)
  rw [SS_sr hg.lw (Sl_lt n b), SS_sr hg.lw (Sl_lt n l)]
  show (iL (Bl g n b * Tl g n b) * iL (Bl g n l * Bl g n l) ≤ iL (Bl g n l * Tl g n l) * iL (Bl g n b * Bl g n b)) ↔ _
  have b1' : 0 < Bl g n b := b1
  have l1' : 0 < Bl g n l := l1
  have B1 : (Bl g n b).natAbs ≤ 1400 := by unfold Bl; omega
  have L1 : (Bl g n l).natAbs ≤ 1400 := by unfold Bl; omega
  have B2 : (Tl g n b).natAbs ≤ 329313600 := by unfold Tl; omega
  have L2 : (Tl g n l).natAbs ≤ 329313600 := by unfold Tl; omega
  have z1 := ab_mul (ab_mul B1 B2) (ab_mul L1 L1)
  have z2 := ab_mul (ab_mul L1 L2) (ab_mul B1 B1)
  rw [iL_mul, iL_mul, fa_le64, iL_int (by omega), iL_int (by omega)]
  have e1 : Bl g n b * Tl g n b * (Bl g n l * Bl g n l) = (Bl g n b * Bl g n l) * (Tl g n b * Bl g n l) := by grind
  have e2 : Bl g n l * Tl g n l * (Bl g n b * Bl g n b) = (Bl g n b * Bl g n l) * (Tl g n l * Bl g n b) := by grind
  rw [e1, e2]
  exact le_mulI (Int.mul_pos b1' l1')
theorem cmp6 {n : Nat} {g : Nat → Nat → Nat} (hg : WG n g) (b l : Nat) : (sd 1 (Tl g n b) (Bl g n b).toNat * sd 0 (Tl g n l) (Bl g n l).toNat ≤ sd 1 (Tl g n l) (Bl g n l).toNat * sd 0 (Tl g n b) (Bl g n b).toNat) ↔ Tl g n b * Bl g n l ≤ Tl g n l * Bl g n b := by
  obtain ⟨b1, b2⟩ := DD_14 hg.lw (Sl_lt n b)
  obtain ⟨l1, l2⟩ := DD_14 hg.lw (Sl_lt n l)
  obtain ⟨b3, b4⟩ := sr_bd hg (Sl_lt n b)
  obtain ⟨l3, l4⟩ := sr_bd hg (Sl_lt n l)
  have b1' : 0 < Bl g n b := b1
  have l1' : 0 < Bl g n l := l1
  have B1 : Bl g n b ≤ 1400 := b2
  have L1 : Bl g n l ≤ 1400 := l2
  have B2 : (Tl g n b).natAbs ≤ 329313600 := by unfold Tl; omega
  have L2 : (Tl g n l).natAbs ≤ 329313600 := by unfold Tl; omega
  obtain ⟨u, d, p1, p2, p3, p4⟩ := up_q (x := Tl g n b) (y := (Bl g n b).toNat) (by omega) (by omega) (by omega)
  obtain ⟨v, e, q1, q2, q3, q4⟩ := up_q (x := Tl g n l) (y := (Bl g n l).toNat) (by omega) (by omega) (by omega)
  have g1 := Nat.gcd_pos_of_pos_left (Tl g n b).natAbs (show 0 < (Bl g n b).toNat by omega)
  have g2 := Nat.gcd_pos_of_pos_left (Tl g n l).natAbs (show 0 < (Bl g n l).toNat by omega)
  generalize hG1 : Nat.gcd (Bl g n b).toNat (Tl g n b).natAbs = G1 at *
  generalize hG2 : Nat.gcd (Bl g n l).toNat (Tl g n l).natAbs = G2 at *
  have p5 : Bl g n b = (d : Int) * (G1 : Int) := by
    have : (((Bl g n b).toNat : Nat) : Int) = ((d * G1 : Nat) : Int) := congrArg _ p2
    rw [Int.natCast_mul] at this
    omega
  have q5 : Bl g n l = (e : Int) * (G2 : Int) := by
    have : (((Bl g n l).toNat : Nat) : Int) = ((e * G2 : Nat) : Int) := congrArg _ q2
    rw [Int.natCast_mul] at this
    omega
  have du : u.natAbs ≤ 329313600 := by
    have : (Tl g n b).natAbs = u.natAbs * G1 := by rw [p1, Int.natAbs_mul]; rfl
    have := Nat.le_mul_of_pos_right u.natAbs g1
    omega
  have dv : v.natAbs ≤ 329313600 := by
    have : (Tl g n l).natAbs = v.natAbs * G2 := by rw [q1, Int.natAbs_mul]; rfl
    have := Nat.le_mul_of_pos_right v.natAbs g2
    omega
  have dd : d ≤ 1400 := by
    have := Nat.le_mul_of_pos_right d g1
    omega
  have de : e ≤ 1400 := by
    have := Nat.le_mul_of_pos_right e g2
    omega
  have z1 : (u * (e : Int)).natAbs ≤ 329313600 * 1400 := ab_mul du (by omega)
  have z2 : (v * (d : Int)).natAbs ≤ 329313600 * 1400 := ab_mul dv (by omega)
  rw [p3, p4, q3, q4, iL_mul, iL_mul, fa_le64, iL_int (by omega), iL_int (by omega), p5, q5]
  have e1 : Tl g n b * ((e : Int) * (G2 : Int)) = ((G1 : Int) * (G2 : Int)) * (u * (e : Int)) := by rw [p1]; grind
  have e2 : Tl g n l * ((d : Int) * (G1 : Int)) = ((G1 : Int) * (G2 : Int)) * (v * (d : Int)) := by rw [q1]; grind
  rw [e1, e2]
  exact (le_mulI (Int.mul_pos (by omega) (by omega))).symm
theorem zero6 {n : Nat} {g : Nat → Nat → Nat} (hg : WG n g) (l : Nat) : (sd 1 (Tl g n l) (Bl g n l).toNat = (0 : Int64)) ↔ Tl g n l = 0 := by
  obtain ⟨l1, l2⟩ := DD_14 hg.lw (Sl_lt n l)
  obtain ⟨l3, l4⟩ := sr_bd hg (Sl_lt n l)
  have l1' : 0 < Bl g n l := l1
  have L1 : Bl g n l ≤ 1400 := l2
  have L2 : (Tl g n l).natAbs ≤ 329313600 := by unfold Tl; omega
  obtain ⟨v, e, q1, q2, q3, q4⟩ := up_q (x := Tl g n l) (y := (Bl g n l).toNat) (by omega) (by omega) (by omega)
  have g2 := Nat.gcd_pos_of_pos_left (Tl g n l).natAbs (show 0 < (Bl g n l).toNat by omega)
  rw [q3]
  constructor
  · intro h
    have hv : v = 0 := by
      apply iL_0 _ h
      have : (Tl g n l).natAbs = v.natAbs * Nat.gcd (Bl g n l).toNat (Tl g n l).natAbs := by
        have h9 := congrArg Int.natAbs q1
        rw [Int.natAbs_mul] at h9
        exact h9
      have := Nat.le_mul_of_pos_right v.natAbs g2
      omega
    rw [q1, hv, Int.zero_mul]
  · intro h
    have hv : v = 0 := by
      rw [h] at q1
      rcases Int.mul_eq_zero.mp q1.symm with c | c
      · exact c
      · rw [h] at g2; omega
    rw [hv]; rfl
theorem zero5 {n : Nat} {g : Nat → Nat → Nat} (hg : WG n g) (l : Nat) : (iL (SS g n (Sl n l)) = (0 : Int64)) ↔ Tl g n l = 0 := by
  obtain ⟨l1, l2⟩ := DD_14 hg.lw (Sl_lt n l)
  obtain ⟨l3, l4⟩ := sr_bd hg (Sl_lt n l)
  rw [SS_sr hg.lw (Sl_lt n l)]
  have z : (DD g n (Sl n l) * sr g n (Sl n l)).natAbs ≤ 1400 * 329313600 := ab_mul (by omega) (by omega)
  constructor
  · intro h
    have := iL_0 (by omega) h
    rcases Int.mul_eq_zero.mp this with c | c
    · omega
    · exact c
  · intro h
    have h' : sr g n (Sl n l) = 0 := h
    rw [h', Int.mul_zero]; rfl
/-! ===== blunder ===== -/
def nO : Option Nat → Int32
  | none => -9
  | some b => nI b
def bst (g : Nat → Nat → Nat) (n : Nat) (cur : Option Nat) (l : Nat) : Option Nat := if spP g n l = true then (match cur with | none => some l | some b => if Tl g n b * Bl g n l ≤ Tl g n l * Bl g n b then some b else some l) else cur
def bln (g : Nat → Nat → Nat) (n : Nat) : Nat → Nat → Option Nat → Option Nat
  | 0, _, cur => cur
  | k + 1, l, cur => bln g n k (l + 1) (bst g n cur l)
def OK5 (g : Nat → Nat → Nat) (n l : Nat) (cur : Option Nat) (x4 x6 : Int64) : Prop := ∀ b, cur = some b → b < l ∧ x4 = iL (SS g n (Sl n b)) ∧ x6 = iL (Bl g n b * Bl g n b)
def OK6 (g : Nat → Nat → Nat) (n l : Nat) (cur : Option Nat) (x3 x5 : Int64) : Prop := ∀ b, cur = some b → b < l ∧ x3 = sd 1 (Tl g n b) (Bl g n b).toNat ∧ x5 = sd 0 (Tl g n b) (Bl g n b).toNat
theorem bl5_in {n F : Nat} {g : Nat → Nat → Nat} {rows : Nat → Int32} (hF : 40 < F) (hg : WG n g) (hr : RR n g rows) : ∀ (k l fuel : Nat) (cur : Option Nat) (dv ss x4 x6 : Int64) (eq : Nat → Int64), k + l = n → k < fuel → OK5 g n l cur x4 x6 → ∃ dv' ss' eq', f_X3_blunder_L17 F (nI n) rows fuel dv ss eq (nI (msk (spP g n) n)) (nO cur) x4 x6 (nI l) = some (nO (bln g n k l cur), dv', ss', eq') := by
  have hn := hg.1
  have hp2 : 2 ^ n ≤ 256 := p2_256 hg.1
  have hm := msk_lt (spP g n) n
  intro k
  induction k with
  | zero =>
    intro l fuel cur dv ss x4 x6 eq hk hf ho
    have e : l = n := by omega
    subst e
    obtain ⟨f, rfl⟩ : ∃ f, fuel = f + 1 := ⟨fuel - 1, by omega⟩
    refine ⟨dv, ss, eq, ?_⟩
    show f_X3_blunder_B17 F (nI l) rows _ _ _ _ _ _ _ _ _ = _
    unfold f_X3_blunder_B17
    rw [if_pos (nI_le (Nat.le_refl l) (by omega))]
    rfl
  | succ k ih =>
    intro l fuel cur dv ss x4 x6 eq hk hf ho
    obtain ⟨f, rfl⟩ : ∃ f, fuel = f + 1 := ⟨fuel - 1, by omega⟩
    have hl : l < n := by omega
    have c : ¬ nI n ≤ nI l := nI_ge hl (by omega)
    have e0 : f_X3_blunder_L17 F (nI n) rows (f + 1) dv ss eq (nI (msk (spP g n) n)) (nO cur) x4 x6 (nI l) = f_X3_blunder_B17 F (nI n) rows (f_X3_blunder_L17 F (nI n) rows f) dv ss eq (nI (msk (spP g n) n)) (nO cur) x4 x6 (nI l) := rfl
    have eb : bln g n (k + 1) l cur = bln g n k (l + 1) (bst g n cur l) := rfl
    rw [e0, eb]
    unfold f_X3_blunder_B17 f_X3_blunder_J84 f_X3_blunder_J97
    rw [if_neg c, e_holds (by omega) (by omega), spare_bit hl, e_all0 hn]
    simp only [bnd1_some', i01, nmd, nI_1, Sl_nI hn (show l < 8 by omega)]
    unfold bst
    cases hb : spP g n l with
    | false =>
      rw [if_pos rfl, if_neg (show ¬ false = true by decide)]
      exact ih (l + 1) f cur dv ss x4 x6 eq (by omega) (by omega) (fun b hb2 => ⟨by have := (ho b hb2).1; omega, (ho b hb2).2⟩)
    | true =>
      obtain ⟨w1, a1, a2⟩ := e_adjust (F := F) (by omega) hg hr (Sl_lt n l) dv ss eq
      rw [if_neg (show ¬ true = false by decide), if_pos rfl, a1]
      simp only [bnd3]
      have new : OK5 g n (l + 1) (some l) (iL (SS g n (Sl n l))) (iL (DD g n (Sl n l)) * iL (DD g n (Sl n l))) := fun b hb2 => by
        cases hb2
        exact ⟨by omega, rfl, by rw [iL_mul]; rfl⟩
      cases cur with
      | none =>
        rw [show nO none = (-9 : Int32) from rfl, if_pos rfl]
        exact ih (l + 1) f (some l) _ _ _ _ _ (by omega) (by omega) new
      | some b =>
        obtain ⟨o1, o2, o3⟩ := ho b rfl
        rw [show nO (some b) = nI b from rfl, if_neg (nI_n9 (by omega)), o2, o3, iL_mul]
        have cm := cmp5 hg b l
        by_cases d : Tl g n b * Bl g n l ≤ Tl g n l * Bl g n b
        · rw [if_pos (show iL (SS g n (Sl n b)) * iL (DD g n (Sl n l) * DD g n (Sl n l)) ≤ iL (SS g n (Sl n l)) * iL (Bl g n b * Bl g n b) from cm.mpr d)]
          simp only [if_pos d]
          exact ih (l + 1) f (some b) _ _ _ _ _ (by omega) (by omega) (fun b' hb2 => by cases hb2; exact ⟨by omega, rfl, rfl⟩)
        · rw [if_neg (show ¬ iL (SS g n (Sl n b)) * iL (DD g n (Sl n l) * DD g n (Sl n l)) ≤ iL (SS g n (Sl n l)) * iL (Bl g n b * Bl g n b) from fun q => d (cm.mp q))]
          simp only [if_neg d]
          rw [iL_mul] at new
          exact ih (l + 1) f (some l) _ _ _ _ _ (by omega) (by omega) new
theorem bl6_in {n F : Nat} {g : Nat → Nat → Nat} {page sines : Nat → Int32} (hF : 100 < F) (hg : WG n g) (hp : PP n g page) (hsn : ∀ j, j < 12 → sines j = sinT j) : ∀ (k l fuel : Nat) (cur : Option Nat) (wide : Int32) (up low x3 x5 : Int64) (col : Nat → Int32) (G R work : Nat → Int64), k + l = n → k < fuel → OK6 g n l cur x3 x5 → ∃ wide' up' low' col' G' R' work', f_X6_blunder_L27 F page sines fuel wide up low col G R work (nI (con g n (2 ^ n - 1))) (nO cur) x3 x5 (nI l) = some (nO (bln g n k l cur), wide', up', low', col', G', R', work') := by
  have hn := hg.1
  have hp2 : 2 ^ n ≤ 256 := p2_256 hg.1
  intro k
  induction k with
  | zero =>
    intro l fuel cur wide up low x3 x5 col G R work hk hf ho
    have e : l = n := by omega
    subst e
    obtain ⟨f, rfl⟩ : ∃ f, fuel = f + 1 := ⟨fuel - 1, by omega⟩
    refine ⟨wide, up, low, col, G, R, work, ?_⟩
    show f_X6_blunder_B27 F page sines _ _ _ _ _ _ _ _ _ _ _ _ _ = _
    unfold f_X6_blunder_B27
    rw [chk_0 (by omega) (by omega), show Int32.toNatClampNeg (0 : Int32) = 0 from rfl, hp.1, if_pos (nI_le (Nat.le_refl l) (by omega))]
    rfl
  | succ k ih =>
    intro l fuel cur wide up low x3 x5 col G R work hk hf ho
    obtain ⟨f, rfl⟩ : ∃ f, fuel = f + 1 := ⟨fuel - 1, by omega⟩
    have hl : l < n := by omega
    have c : ¬ nI n ≤ nI l := nI_ge hl (by omega)
    have e0 : f_X6_blunder_L27 F page sines (f + 1) wide up low col G R work (nI (con g n (2 ^ n - 1))) (nO cur) x3 x5 (nI l) = f_X6_blunder_B27 F page sines (f_X6_blunder_L27 F page sines f) wide up low col G R work (nI (con g n (2 ^ n - 1))) (nO cur) x3 x5 (nI l) := rfl
    have eb : bln g n (k + 1) l cur = bln g n k (l + 1) (bst g n cur l) := rfl
    rw [e0, eb]
    unfold f_X6_blunder_B27 f_X6_blunder_J102 f_X6_blunder_J116
    rw [chk_0 (by omega) (by omega), show Int32.toNatClampNeg (0 : Int32) = 0 from rfl, hp.1, if_neg c, e_all6 hn hp.1]
    simp only [bnd1_some', nmd, nI_1, Sl_nI hn (show l < 8 by omega)]
    rw [e_tied (by omega) hg (Sl_lt n l) hp, show rch g (Sl n l) n 6 1 = con g n (Sl n l) from rfl]
    simp only [bnd1_some', con_eqI hg.lw (Sl_lt n l) (all_lt n)]
    unfold bst spP
    by_cases hb : con g n (Sl n l) = con g n (2 ^ n - 1)
    · obtain ⟨wide1, col1, G1, R1, work1, q⟩ := e_laySq (F := F) (by omega) hg hp hsn (Sl_lt n l) wide up low col G R work
      rw [hb] at q
      rw [if_pos hb, if_pos (decide_eq_true hb), q]
      simp only [bnd7]
      have new : OK6 g n (l + 1) (some l) (sd 1 (sr g n (Sl n l)) (DD g n (Sl n l)).toNat) (sd 0 (sr g n (Sl n l)) (DD g n (Sl n l)).toNat) := fun b hb2 => by
        cases hb2
        exact ⟨by omega, rfl, rfl⟩
      cases cur with
      | none =>
        rw [show nO none = (-9 : Int32) from rfl, if_pos rfl]
        exact ih (l + 1) f (some l) _ _ _ _ _ _ _ _ _ (by omega) (by omega) new
      | some b =>
        obtain ⟨o1, o2, o3⟩ := ho b rfl
        rw [show nO (some b) = nI b from rfl, if_neg (nI_n9 (by omega)), o2, o3]
        have cm := cmp6 hg b l
        by_cases d : Tl g n b * Bl g n l ≤ Tl g n l * Bl g n b
        · rw [if_pos (show sd 1 (Tl g n b) (Bl g n b).toNat * sd 0 (sr g n (Sl n l)) (DD g n (Sl n l)).toNat ≤ sd 1 (sr g n (Sl n l)) (DD g n (Sl n l)).toNat * sd 0 (Tl g n b) (Bl g n b).toNat from cm.mpr d)]
          simp only [if_pos d]
          exact ih (l + 1) f (some b) _ _ _ _ _ _ _ _ _ (by omega) (by omega) (fun b' hb2 => by cases hb2; exact ⟨by omega, rfl, rfl⟩)
        · rw [if_neg (show ¬ sd 1 (Tl g n b) (Bl g n b).toNat * sd 0 (sr g n (Sl n l)) (DD g n (Sl n l)).toNat ≤ sd 1 (sr g n (Sl n l)) (DD g n (Sl n l)).toNat * sd 0 (Tl g n b) (Bl g n b).toNat from fun q => d (cm.mp q))]
          simp only [if_neg d]
          exact ih (l + 1) f (some l) _ _ _ _ _ _ _ _ _ (by omega) (by omega) new
    · rw [if_neg hb, if_neg (by rw [decide_eq_false hb]; decide)]
      exact ih (l + 1) f cur wide up low x3 x5 col G R work (by omega) (by omega) (fun b hb2 => ⟨by have := (ho b hb2).1; omega, (ho b hb2).2⟩)
/-! ===== menders ===== -/
def mdP (g : Nat → Nat → Nat) (n l : Nat) : Bool := spP g n l && decide (Tl g n l = 0)
theorem md5_in {n F : Nat} {g : Nat → Nat → Nat} {rows : Nat → Int32} (hF : 40 < F) (hg : WG n g) (hr : RR n g rows) : ∀ (k l fuel : Nat) (dv ss : Int64) (eq : Nat → Int64), k + l = n → k < fuel → ∃ dv' ss' eq', f_X3_menders_L10 F (nI n) rows fuel dv ss eq (nI (msk (spP g n) n)) (nI (msk (mdP g n) l)) (nI l) = some (nI (msk (mdP g n) n), dv', ss', eq') := by
  have hn := hg.1
  have hp2 : 2 ^ n ≤ 256 := p2_256 hg.1
  have hm := msk_lt (spP g n) n
  intro k
  induction k with
  | zero =>
    intro l fuel dv ss eq hk hf
    have e : l = n := by omega
    subst e
    obtain ⟨f, rfl⟩ : ∃ f, fuel = f + 1 := ⟨fuel - 1, by omega⟩
    refine ⟨dv, ss, eq, ?_⟩
    show f_X3_menders_B10 F (nI l) rows _ _ _ _ _ _ _ = _
    unfold f_X3_menders_B10
    rw [if_pos (nI_le (Nat.le_refl l) (by omega))]
  | succ k ih =>
    intro l fuel dv ss eq hk hf
    obtain ⟨f, rfl⟩ : ∃ f, fuel = f + 1 := ⟨fuel - 1, by omega⟩
    have hl : l < n := by omega
    have c : ¬ nI n ≤ nI l := nI_ge hl (by omega)
    have e0 : f_X3_menders_L10 F (nI n) rows (f + 1) dv ss eq (nI (msk (spP g n) n)) (nI (msk (mdP g n) l)) (nI l) = f_X3_menders_B10 F (nI n) rows (f_X3_menders_L10 F (nI n) rows f) dv ss eq (nI (msk (spP g n) n)) (nI (msk (mdP g n) l)) (nI l) := rfl
    rw [e0]
    unfold f_X3_menders_B10 f_X3_menders_J60
    rw [if_neg c, e_holds (by omega) (by omega), spare_bit hl, e_all0 hn]
    simp only [bnd1_some', i01, nmd, nI_1, Sl_nI hn (show l < 8 by omega)]
    cases hb : spP g n l with
    | false =>
      have hd : mdP g n l = false := by unfold mdP; rw [hb]; rfl
      rw [if_pos rfl]
      have hi := ih (l + 1) f dv ss eq (by omega) (by omega)
      rw [msk_no hd] at hi
      exact hi
    | true =>
      obtain ⟨w1, a1, a2⟩ := e_adjust (F := F) (by omega) hg hr (Sl_lt n l) dv ss eq
      rw [if_neg (show ¬ true = false by decide), a1]
      simp only [bnd3, zero5 hg l]
      have hi := ih (l + 1) f (iL (DD g n (Sl n l))) (iL (SS g n (Sl n l))) w1 (by omega) (by omega)
      by_cases d : Tl g n l = 0
      · have hd : mdP g n l = true := by unfold mdP; rw [hb, decide_eq_true d]; rfl
        rw [if_pos d, shl_nI (by omega), fa_or, msk_or hd]
        exact hi
      · have hd : mdP g n l = false := by unfold mdP; rw [hb, decide_eq_false d]; rfl
        rw [if_neg d]
        rw [msk_no hd] at hi
        exact hi
theorem md6_in {n F : Nat} {g : Nat → Nat → Nat} {page sines : Nat → Int32} (hF : 100 < F) (hg : WG n g) (hp : PP n g page) (hsn : ∀ j, j < 12 → sines j = sinT j) : ∀ (k l fuel : Nat) (wide : Int32) (up low : Int64) (col : Nat → Int32) (G R work : Nat → Int64), k + l = n → k < fuel → ∃ wide' up' low' col' G' R' work', f_X6_clearOnes_L20 F page sines fuel wide up low col G R work (nI (con g n (2 ^ n - 1))) (nI (msk (mdP g n) l)) (nI l) = some (nI (msk (mdP g n) n), wide', up', low', col', G', R', work') := by
  have hn := hg.1
  have hp2 : 2 ^ n ≤ 256 := p2_256 hg.1
  intro k
  induction k with
  | zero =>
    intro l fuel wide up low col G R work hk hf
    have e : l = n := by omega
    subst e
    obtain ⟨f, rfl⟩ : ∃ f, fuel = f + 1 := ⟨fuel - 1, by omega⟩
    refine ⟨wide, up, low, col, G, R, work, ?_⟩
    show f_X6_clearOnes_B20 F page sines _ _ _ _ _ _ _ _ _ _ _ = _
    unfold f_X6_clearOnes_B20
    rw [chk_0 (by omega) (by omega), show Int32.toNatClampNeg (0 : Int32) = 0 from rfl, hp.1, if_pos (nI_le (Nat.le_refl l) (by omega))]
  | succ k ih =>
    intro l fuel wide up low col G R work hk hf
    obtain ⟨f, rfl⟩ : ∃ f, fuel = f + 1 := ⟨fuel - 1, by omega⟩
    have hl : l < n := by omega
    have c : ¬ nI n ≤ nI l := nI_ge hl (by omega)
    have e0 : f_X6_clearOnes_L20 F page sines (f + 1) wide up low col G R work (nI (con g n (2 ^ n - 1))) (nI (msk (mdP g n) l)) (nI l) = f_X6_clearOnes_B20 F page sines (f_X6_clearOnes_L20 F page sines f) wide up low col G R work (nI (con g n (2 ^ n - 1))) (nI (msk (mdP g n) l)) (nI l) := rfl
    rw [e0]
    unfold f_X6_clearOnes_B20 f_X6_clearOnes_J87 f_X6_clearOnes_J89
    rw [chk_0 (by omega) (by omega), show Int32.toNatClampNeg (0 : Int32) = 0 from rfl, hp.1, if_neg c, e_all6 hn hp.1]
    simp only [bnd1_some', nmd, nI_1, Sl_nI hn (show l < 8 by omega)]
    rw [e_tied (by omega) hg (Sl_lt n l) hp, show rch g (Sl n l) n 6 1 = con g n (Sl n l) from rfl]
    simp only [bnd1_some', con_eqI hg.lw (Sl_lt n l) (all_lt n)]
    by_cases hb : con g n (Sl n l) = con g n (2 ^ n - 1)
    · have hs : spP g n l = true := decide_eq_true hb
      obtain ⟨wide1, col1, G1, R1, work1, q⟩ := e_laySq (F := F) (by omega) hg hp hsn (Sl_lt n l) wide up low col G R work
      rw [hb] at q
      rw [if_pos hb, q]
      have z6 : (sd 1 (sr g n (Sl n l)) (DD g n (Sl n l)).toNat = (0 : Int64)) ↔ Tl g n l = 0 := zero6 hg l
      simp only [bnd7, z6]
      have hi := ih (l + 1) f wide1 (sd 1 (sr g n (Sl n l)) (DD g n (Sl n l)).toNat) (sd 0 (sr g n (Sl n l)) (DD g n (Sl n l)).toNat) col1 G1 R1 work1 (by omega) (by omega)
      by_cases d : Tl g n l = 0
      · have hd : mdP g n l = true := by unfold mdP; rw [hs, decide_eq_true d]; rfl
        rw [if_pos d, shl_nI (by omega), fa_or, msk_or hd]
        exact hi
      · have hd : mdP g n l = false := by unfold mdP; rw [hs, decide_eq_false d]; rfl
        rw [if_neg d]
        rw [msk_no hd] at hi
        rw [Int32.or_zero]
        exact hi
    · have hs : spP g n l = false := decide_eq_false hb
      have hd : mdP g n l = false := by unfold mdP; rw [hs]; rfl
      rw [if_neg hb]
      have hi := ih (l + 1) f wide up low col G R work (by omega) (by omega)
      rw [msk_no hd] at hi
      exact hi
theorem core_ask {N n F : Nat} {g : Nat → Nat → Nat} {size st stations : Int32} {rows page sines : Nat → Int32} (hF : F = 1000) (h : CV N n g size st rows stations page) (hsn : ∀ j, j < 12 → sines j = sinT j) (y1 th wide : Int32) (dv ss up low : Int64) (eq : Nat → Int64) (column : Nat → Int32) (gram right work : Nat → Int64) : ∃ r dv' ss' eq' wide' up' low' column' gram' right' work', f_X5_ask F y1 size rows dv ss eq = some (r, dv', ss', eq') ∧ f_X6_ask F y1 th wide up low page sines column gram right work = some (r, 0, wide', up', low', column', gram', right', work') := by
  obtain ⟨hw, ⟨rfl, rfl, hr⟩, hp, rfl⟩ := h
  have hg := hw.wg
  have hn := hw.1
  have hA := all_lt n
  unfold f_X5_ask f_X6_ask
  by_cases c0 : y1 = 0
  · rw [if_pos c0, if_pos c0, e_connected (by omega) hg hr, e_all6 hn hp.1]
    simp only [bnd1_some']
    rw [e_tied (by omega) hg hA hp]
    exact ⟨_, _, _, _, _, _, _, _, _, _, _, rfl, rfl⟩
  rw [if_neg c0, if_neg c0]
  by_cases c1 : y1 = 1
  · rw [if_pos c1, if_pos c1, e_loops0 (by omega) hg hr, e_loops6 hF hg hp]
    exact ⟨_, _, _, _, _, _, _, _, _, _, _, rfl, rfl⟩
  rw [if_neg c1, if_neg c1]
  by_cases c2 : y1 = 2
  · obtain ⟨dv', ss', eq', a1⟩ := bl5_in (F := F) (by omega) hg hr n 0 F none dv ss 0 1 eq (by omega) (by omega) (fun b hb => by cases hb)
    obtain ⟨wide', up', low', col', G', R', work', a2⟩ := bl6_in (F := F) (by omega) hg hp hsn n 0 F none wide up low 0 1 column gram right work (by omega) (by omega) (fun b hb => by cases hb)
    have b1 : f_X3_blunder F dv ss eq (nI n) rows = some (nO (bln g n n 0 none), dv', ss', eq') := by
      unfold f_X3_blunder
      rw [e_spare (by omega) hg hr]
      exact a1
    have b2 : f_X6_blunder F wide up low page sines column gram right work = some (nO (bln g n n 0 none), wide', up', low', col', G', R', work') := by
      unfold f_X6_blunder
      rw [e_all6 hn hp.1]
      simp only [bnd1_some']
      rw [e_tied (by omega) hg hA hp]
      exact a2
    rw [if_pos c2, if_pos c2, b1, b2]
    exact ⟨_, _, _, _, _, _, _, _, _, _, _, rfl, rfl⟩
  rw [if_neg c2, if_neg c2]
  by_cases c3 : y1 = 3
  · obtain ⟨dv', ss', eq', a1⟩ := md5_in (F := F) (by omega) hg hr n 0 F dv ss eq (by omega) (by omega)
    obtain ⟨wide', up', low', col', G', R', work', a2⟩ := md6_in (F := F) (by omega) hg hp hsn n 0 F wide up low column gram right work (by omega) (by omega)
    have b1 : f_X3_menders F dv ss eq (nI n) rows = some (nI (msk (mdP g n) n), dv', ss', eq') := by
      unfold f_X3_menders
      rw [e_spare (by omega) hg hr]
      exact a1
    have b2 : f_X6_clearOnes F wide up low page sines column gram right work = some (nI (msk (mdP g n) n), wide', up', low', col', G', R', work') := by
      unfold f_X6_clearOnes
      rw [e_all6 hn hp.1]
      simp only [bnd1_some']
      rw [e_tied (by omega) hg hA hp]
      exact a2
    rw [if_pos c3, if_pos c3, b1, b2]
    exact ⟨_, _, _, _, _, _, _, _, _, _, _, rfl, rfl⟩
  rw [if_neg c3, if_neg c3]
  exact ⟨_, _, _, _, _, _, _, _, _, _, _, rfl, rfl⟩
