/-! ===== the determinant is small ===== -/
def pm (m : Nat → Nat) : Nat → Nat
  | 0 => 1
  | p + 1 => pm m p * m p
theorem pr_2 : ∀ x, x < 22 → ∀ y, y < 22 → x + y < 22 → x * y ≤ (x + y) * (x + y) / 4 := by decide +kernel
theorem pr_3 : ∀ s, s < 22 → ∀ t, t < 22 → ∀ e, e < 22 → s + t + e < 22 → (s * s / 4) * (t * t / 4) * e ≤ 1400 := by decide +kernel
theorem pr_5 {a b c d e : Nat} (h : a + b + c + d + e ≤ 21) : 1 * a * b * c * d * e ≤ 1400 := by
  have h1 := pr_2 a (by omega) b (by omega) (by omega)
  have h2 := pr_2 c (by omega) d (by omega) (by omega)
  have h3 := pr_3 (a + b) (by omega) (c + d) (by omega) e (by omega) (by omega)
  have h4 : 1 * a * b * c * d * e = (a * b) * (c * d) * e := by rw [Nat.one_mul, Nat.mul_assoc (a * b) c d]
  rw [h4]
  exact Nat.le_trans (Nat.mul_le_mul (Nat.mul_le_mul h1 h2) (Nat.le_refl e)) h3
theorem mM_nn (g : Nat → Nat → Nat) (n S K i : Nat) : 0 ≤ mM g n S K i i := by
  unfold mM
  have h1 : 0 ≤ sg (fun l => if uS g S K l = true then el g l i * el g l i else 0) n := sg_nn (fun l _ => by
    show 0 ≤ (if uS g S K l = true then el g l i * el g l i else 0)
    split
    · exact sq_nn _
    · exact Int.le_refl 0)
  have h2 : (0 : Int) ≤ (if i = i ∧ K.testBit (i + 1) = false then 1 else 0) := by split <;> omega
  omega
theorem el_sq (g : Nat → Nat → Nat) (l i : Nat) : el g l i * el g l i ≤ (if g l 5 = i + 1 then 1 else 0) * 1 + (if g l 4 = i + 1 then 1 else 0) * 1 := by
  unfold el eL
  by_cases a : g l 5 = i + 1 <;> by_cases b : g l 4 = i + 1
  · rw [if_pos a, if_pos b]; decide
  · rw [if_pos a, if_neg b]; decide
  · rw [if_neg a, if_pos b]; decide
  · rw [if_neg a, if_neg b]; decide
theorem sg_mono {f h : Nat → Int} : ∀ {n : Nat}, (∀ i, i < n → f i ≤ h i) → sg f n ≤ sg h n
  | 0, _ => Int.le_refl 0
  | n + 1, e => by
    have h1 := sg_mono (f := f) (h := h) (n := n) (fun i hi => e i (by omega))
    have h2 := e n (by omega)
    show sg f n + f n ≤ sg h n + h n
    omega
theorem el_two {n : Nat} {g : Nat → Nat → Nat} (hw : LW n g) {l : Nat} (hl : l < n) : sg (fun i => el g l i * el g l i) 5 ≤ 2 := by
  have h := hw.2 l hl
  have h1 := sg_mono (f := fun i => el g l i * el g l i) (h := fun i => (if g l 5 = i + 1 then 1 else 0) * 1 + (if g l 4 = i + 1 then 1 else 0) * 1) (n := 5) (fun i _ => el_sq g l i)
  rw [sg_add (f := fun i => (if g l 5 = i + 1 then 1 else 0) * 1 + (if g l 4 = i + 1 then 1 else 0) * 1) (g := fun i => (if g l 5 = i + 1 then 1 else 0) * 1) (h := fun i => (if g l 4 = i + 1 then 1 else 0) * 1) (fun _ _ => rfl), eL_1 (fun _ => 1) h.2, eL_1 (fun _ => 1) h.1] at h1
  have y1 : ∀ a, Yx (fun _ => 1) a ≤ 1 := fun a => by
    unfold Yx
    split
    · omega
    · exact Int.le_refl 1
  have y2 := y1 (g l 5)
  have y3 := y1 (g l 4)
  omega
theorem mM_tr {n : Nat} {g : Nat → Nat → Nat} (hw : LW n g) (S K : Nat) : sg (fun i => mM g n S K i i) 5 ≤ 21 := by
  have hn := hw.1
  have e : sg (fun i => mM g n S K i i) 5 = sg (fun i => sg (fun l => if uS g S K l = true then el g l i * el g l i else 0) n) 5 + sg (fun i => if i = i ∧ K.testBit (i + 1) = false then 1 else 0) 5 := sg_add (fun _ _ => rfl)
  have h1 : sg (fun l => sg (fun i => if uS g S K l = true then el g l i * el g l i else 0) 5) n ≤ (n : Int) * 2 := sg_le (fun l hl => by
    by_cases c : uS g S K l = true
    · have := el_two hw hl
      rw [sg_cong (f := fun i => if uS g S K l = true then el g l i * el g l i else 0) (g := fun i => el g l i * el g l i) (fun i _ => if_pos c)]
      exact this
    · rw [sg_zero (f := fun i => if uS g S K l = true then el g l i * el g l i else 0) (fun i _ => if_neg c)]
      omega)
  have h2 : sg (fun i => if i = i ∧ K.testBit (i + 1) = false then 1 else 0) 5 ≤ ((5 : Nat) : Int) * 1 := sg_le (fun i _ => by split <;> omega)
  rw [e, sg_swap]
  omega
theorem dt_pm {n : Nat} {g : Nat → Nat → Nat} (hw : LW n g) {S : Nat} (hS : S < 2 ^ n) : ∀ p, p ≤ 5 → dt p (mM g n S (con g n S)) ≤ (pm (fun i => (mM g n S (con g n S) i i).toNat) p : Nat)
  | 0, _ => Int.le_refl 1
  | p + 1, hp => by
    have ih := dt_pm hw hS p (by omega)
    have hc : Cr p (mM g n S (con g n S)) := cr_all (fun q hq => by have := mM_pos hw hS (q := q) (by omega); omega)
    have h1 := hadam (m := 5) (fun i j _ _ => mM_sym g n S (con g n S) i j) (fun y => qf_nn hw S _ y) hc (mM_pos hw hS (by omega)) (show p < 5 by omega)
    have h2 := mM_nn g n S (con g n S) p
    have h3 : ((mM g n S (con g n S) p p).toNat : Int) = mM g n S (con g n S) p p := by omega
    have h4 := Int.mul_le_mul_of_nonneg_right ih h2
    show dt (p + 1) (mM g n S (con g n S)) ≤ ((pm (fun i => (mM g n S (con g n S) i i).toNat) p * (mM g n S (con g n S) p p).toNat : Nat) : Int)
    rw [Int.natCast_mul, h3]
    omega
theorem DD_14 {n : Nat} {g : Nat → Nat → Nat} (hw : LW n g) {S : Nat} (hS : S < 2 ^ n) : 0 < DD g n S ∧ DD g n S ≤ 1400 := by
  refine ⟨mM_pos hw hS (Nat.le_refl 5), ?_⟩
  have h1 := dt_pm hw hS 5 (Nat.le_refl 5)
  have h2 := mM_tr hw S (con g n S)
  have n0 := mM_nn g n S (con g n S) 0
  have n1 := mM_nn g n S (con g n S) 1
  have n2 := mM_nn g n S (con g n S) 2
  have n3 := mM_nn g n S (con g n S) 3
  have n4 := mM_nn g n S (con g n S) 4
  have h3 : 0 + mM g n S (con g n S) 0 0 + mM g n S (con g n S) 1 1 + mM g n S (con g n S) 2 2 + mM g n S (con g n S) 3 3 + mM g n S (con g n S) 4 4 ≤ 21 := h2
  have h4 := pr_5 (a := (mM g n S (con g n S) 0 0).toNat) (b := (mM g n S (con g n S) 1 1).toNat) (c := (mM g n S (con g n S) 2 2).toNat) (d := (mM g n S (con g n S) 3 3).toNat) (e := (mM g n S (con g n S) 4 4).toNat) (by omega)
  have h5 : pm (fun i => (mM g n S (con g n S) i i).toNat) 5 ≤ 1400 := h4
  unfold DD
  omega
/-! ===== the least sum of squares ===== -/
def V2 (g : Nat → Nat → Nat) (n S ax l : Nat) : Int := sg (fun x => if uS g S (con g n S) x = true then vI g ax x * vI g ax x else 0) l
def RN (g : Nat → Nat → Nat) (n S ax : Nat) : Int := sg (fun i => rV g n S (con g n S) (vI g ax) i * NN g n S ax i) 5
def qx (g : Nat → Nat → Nat) (n S ax : Nat) : Int := DD g n S * V2 g n S ax n - RN g n S ax
def sr (g : Nat → Nat → Nat) (n S : Nat) : Int := sg (qx g n S) 3
def SX (g : Nat → Nat → Nat) (n S ax : Nat) : Int := sg (fun l => if uS g S (con g n S) l = true then rsd g (DD g n S) (NN g n S) l ax * rsd g (DD g n S) (NN g n S) l ax else 0) n
def dN2 (g : Nat → Nat → Nat) (n S ax : Nat) : Int := sg (fun l => if uS g S (con g n S) l = true then dl g (NN g n S ax) l * dl g (NN g n S ax) l else 0) n
theorem NN_row {n : Nat} {g : Nat → Nat → Nat} (hw : LW n g) {S ax : Nat} (hS : S < 2 ^ n) {i : Nat} (hi : i < 5) : sg (fun j => mM g n S (con g n S) i j * NN g n S ax j) 5 = DD g n S * rV g n S (con g n S) (vI g ax) i :=
  cr_all (p := 5) (A := mM g n S (con g n S)) (fun q hq => by have := mM_pos hw hS (q := q) hq; omega) (rV g n S (con g n S) (vI g ax)) i hi
theorem NN_off {n : Nat} {g : Nat → Nat → Nat} (hw : LW n g) {S ax : Nat} (hS : S < 2 ^ n) {i : Nat} (hi : i < 5) (h : onK (con g n S) i = false) : NN g n S ax i = 0 := by
  have e := NN_row hw hS (ax := ax) hi
  rw [rV_off hw _ hS h, Int.mul_zero, sg_one (k := i) hi (fun j _ hj => by rw [mM_off hw hS (Or.inl h), if_neg (fun q => hj q.symm), Int.zero_mul]), mM_off hw hS (Or.inl h), if_pos rfl, Int.one_mul] at e
  exact e
theorem RN_d {n : Nat} {g : Nat → Nat → Nat} (hw : LW n g) {S ax : Nat} (hS : S < 2 ^ n) : dN2 g n S ax = DD g n S * RN g n S ax := by
  have e1 := qf_eq hw S (con g n S) (NN g n S ax)
  have e2 : sg (fun i => if (con g n S).testBit (i + 1) = false then NN g n S ax i * NN g n S ax i else 0) 5 = 0 := sg_zero (fun i hi => by
    by_cases c : (con g n S).testBit (i + 1) = false
    · rw [if_pos c, NN_off hw hS hi c, Int.mul_zero]
    · rw [if_neg c])
  have e3 : qf (mM g n S (con g n S)) 5 (NN g n S ax) = DD g n S * RN g n S ax := by
    unfold qf RN
    exact sg_mul (fun i hi => by rw [NN_row hw hS hi]; grind)
  rw [e2, e3, Int.add_zero] at e1
  exact e1.symm
theorem vN_RN {n : Nat} {g : Nat → Nat → Nat} (hw : LW n g) (S ax : Nat) : sg (fun l => if uS g S (con g n S) l = true then vI g ax l * dl g (NN g n S ax) l else 0) n = RN g n S ax := by
  rw [← dualL hw S (con g n S) (vI g ax) (NN g n S ax)]
  unfold RN
  exact sg_cong (fun i _ => by unfold rV; rw [Int.mul_comm])
theorem SX_q {n : Nat} {g : Nat → Nat → Nat} (hw : LW n g) {S ax : Nat} (hS : S < 2 ^ n) : SX g n S ax = DD g n S * qx g n S ax := by
  have e1 : SX g n S ax = (DD g n S * DD g n S) * V2 g n S ax n + 1 * ((-2 * DD g n S) * sg (fun l => if uS g S (con g n S) l = true then vI g ax l * dl g (NN g n S ax) l else 0) n + 1 * dN2 g n S ax) := by
    unfold SX V2 dN2
    rw [← sg_lin (f := fun l => (-2 * DD g n S) * (if uS g S (con g n S) l = true then vI g ax l * dl g (NN g n S ax) l else 0) + 1 * (if uS g S (con g n S) l = true then dl g (NN g n S ax) l * dl g (NN g n S ax) l else 0)) (fun _ _ => rfl)]
    apply sg_lin
    intro l _
    by_cases c : uS g S (con g n S) l = true
    · rw [if_pos c, if_pos c, if_pos c, if_pos c]
      unfold rsd
      grind
    · rw [if_neg c, if_neg c, if_neg c, if_neg c]
      grind
  rw [e1, vN_RN hw S ax, RN_d hw hS]
  unfold qx
  grind
theorem SS_sr {n : Nat} {g : Nat → Nat → Nat} (hw : LW n g) {S : Nat} (hS : S < 2 ^ n) : SS g n S = DD g n S * sr g n S := by
  have e1 : SS g n S = sg (SX g n S) 3 := by
    unfold SS SX sqv
    rw [← sg_swap]
    apply sg_cong
    intro l _
    by_cases c : uS g S (con g n S) l = true
    · rw [if_pos c]
      exact sg_cong (fun ax _ => (if_pos c).symm)
    · rw [if_neg c, sg_zero (fun ax _ => if_neg c)]
  rw [e1]
  exact sg_mul (fun ax _ => SX_q hw hS)
theorem pos_of {a b : Int} (ha : 0 < a) (h : 0 ≤ a * b) : 0 ≤ b := by
  rcases Int.lt_or_le b 0 with c | c
  · have := Int.mul_neg_of_pos_of_neg ha c
    omega
  · exact c
theorem V2_bd {n : Nat} {g : Nat → Nat → Nat} (hg : WG n g) {S ax : Nat} (hax : ax < 3) : V2 g n S ax n ≤ 78408 := by
  have hn := hg.1
  have h : V2 g n S ax n ≤ (n : Int) * 9801 := sg_le (fun l hl => by
    by_cases c : uS g S (con g n S) l = true
    · rw [if_pos c]
      have h1 := vI_bd hg hl hax
      have h2 := ab_mul h1 h1
      omega
    · rw [if_neg c]; omega)
  omega
theorem qx_bd {n : Nat} {g : Nat → Nat → Nat} (hg : WG n g) {S ax : Nat} (hS : S < 2 ^ n) (hax : ax < 3) : 0 ≤ qx g n S ax ∧ qx g n S ax ≤ 109771200 := by
  obtain ⟨d1, d2⟩ := DD_14 hg.lw hS
  have s1 : 0 ≤ SX g n S ax := sg_nn (fun l _ => by
    show 0 ≤ (if uS g S (con g n S) l = true then rsd g (DD g n S) (NN g n S) l ax * rsd g (DD g n S) (NN g n S) l ax else 0)
    split
    · exact sq_nn _
    · exact Int.le_refl 0)
  have s2 : 0 ≤ dN2 g n S ax := sg_nn (fun l _ => by
    show 0 ≤ (if uS g S (con g n S) l = true then dl g (NN g n S ax) l * dl g (NN g n S ax) l else 0)
    split
    · exact sq_nn _
    · exact Int.le_refl 0)
  have s3 : 0 ≤ V2 g n S ax n := sg_nn (fun l _ => by
    show 0 ≤ (if uS g S (con g n S) l = true then vI g ax l * vI g ax l else 0)
    split
    · exact sq_nn _
    · exact Int.le_refl 0)
  rw [SX_q hg.lw hS] at s1
  rw [RN_d hg.lw hS] at s2
  have r1 := pos_of d1 s1
  have r2 := pos_of d1 s2
  have r3 := V2_bd hg (S := S) hax
  refine ⟨r1, ?_⟩
  have r4 := Int.mul_le_mul_of_nonneg_right d2 s3
  unfold qx
  omega
theorem sr_bd {n : Nat} {g : Nat → Nat → Nat} (hg : WG n g) {S : Nat} (hS : S < 2 ^ n) : 0 ≤ sr g n S ∧ sr g n S ≤ 329313600 := by
  obtain ⟨a1, a2⟩ := qx_bd hg hS (ax := 0) (by omega)
  obtain ⟨b1, b2⟩ := qx_bd hg hS (ax := 1) (by omega)
  obtain ⟨c1, c2⟩ := qx_bd hg hS (ax := 2) (by omega)
  have e : sr g n S = 0 + qx g n S 0 + qx g n S 1 + qx g n S 2 := rfl
  omega
theorem RN_c {n : Nat} {g : Nat → Nat → Nat} (hw : LW n g) {S ax : Nat} (hS : S < 2 ^ n) : sg (fun a => rC g n S (con g n S) (vI g ax) a * dt (wd (con g n S)) (rp (mC g n S (con g n S)) a (rC g n S (con g n S) (vI g ax)))) (wd (con g n S)) = RN g n S ax := (sg_cnt (P := onK (con g n S)) (p := 5) (fun i hi => by
  cases c : onK (con g n S) i with
  | true =>
    rw [if_pos rfl, NN_c hw hS hi c, rV_on hw _ hS hi c]
  | false =>
    rw [if_neg (by decide), rV_off hw _ hS c, Int.zero_mul])).symm
abbrev kb9T : Type := Int32 → Int64 → Int64 → (Nat → Int32) → (Nat → Int64) → (Nat → Int64) → (Nat → Int64) → Int32 → Int32 → Int64 → Int64 → Int32 → Option ((Int32) × (Int64) × (Int64) × (Nat → Int32) × (Nat → Int64) × (Nat → Int64) × (Nat → Int64))
theorem sq_101 {n F S ax : Nat} {g : Nat → Nat → Nat} {page sines col : Nat → Int32} {G R : Nat → Int64} {kb9 : kb9T} (hF : 8 < F) (hg : WG n g) (hax : ax < 3) (h : GI g S (con g n S) ax n G R) (up low : Int64) (c : Int) (x3 : Int32) (x6 : Int64) : ∀ (k a fuel : Nat) (work : Nat → Int64), k + a = wd (con g n S) → k < fuel → ∃ work', f_X6_laySquares_L101 F sines page kb9 fuel (nI (wd (con g n S))) up low col G R work (nI S) x3 (iL (c - sg (fun a => rC g n S (con g n S) (vI g ax) a * dt (wd (con g n S)) (rp (mC g n S (con g n S)) a (rC g n S (con g n S) (vI g ax)))) a)) x6 (nI ax) (nI a) = kb9 (nI (wd (con g n S))) up low col G R work' (nI S) x3 (iL (c - sg (fun a => rC g n S (con g n S) (vI g ax) a * dt (wd (con g n S)) (rp (mC g n S (con g n S)) a (rC g n S (con g n S) (vI g ax)))) (wd (con g n S)))) x6 (nI (ax + 1)) := by
  have hw5 := wd_le (con g n S)
  intro k
  induction k with
  | zero =>
    intro a fuel work hk hf
    have e : a = wd (con g n S) := by omega
    subst e
    obtain ⟨f, rfl⟩ : ∃ f, fuel = f + 1 := ⟨fuel - 1, by omega⟩
    refine ⟨work, ?_⟩
    show f_X6_laySquares_B101 F sines page kb9 _ _ _ _ _ _ _ _ _ _ _ _ _ _ = _
    unfold f_X6_laySquares_B101
    rw [if_pos (nI_le (Nat.le_refl _) (by omega))]
    simp only [nmd, nI_1]
  | succ k ih =>
    intro a fuel work hk hf
    obtain ⟨f, rfl⟩ : ∃ f, fuel = f + 1 := ⟨fuel - 1, by omega⟩
    have ha : a < wd (con g n S) := by omega
    obtain ⟨w1, m1⟩ := e_detk work hF hg hax h ha
    obtain ⟨work', h1⟩ := ih (a + 1) f w1 (by omega) (by omega)
    refine ⟨work', ?_⟩
    show f_X6_laySquares_B101 F sines page kb9 (f_X6_laySquares_L101 F sines page kb9 f) _ _ _ _ _ _ _ _ _ _ _ _ _ = _
    unfold f_X6_laySquares_B101
    have cc : ¬ nI (wd (con g n S)) ≤ nI a := nI_ge ha (by omega)
    rw [if_neg cc, chk_nI (by omega) (by omega), m1]
    simp (disch := omega) only [bnd2, nmd, cl_nI, nI_1]
    rw [h.2 a (by omega), iL_mul, iL_sub]
    have es : sg (fun a => rC g n S (con g n S) (vI g ax) a * dt (wd (con g n S)) (rp (mC g n S (con g n S)) a (rC g n S (con g n S) (vI g ax)))) (a + 1) = sg (fun a => rC g n S (con g n S) (vI g ax) a * dt (wd (con g n S)) (rp (mC g n S (con g n S)) a (rC g n S (con g n S) (vI g ax)))) a + rC g n S (con g n S) (vI g ax) a * dt (wd (con g n S)) (rp (mC g n S (con g n S)) a (rC g n S (con g n S) (vI g ax))) := rfl
    rw [es, ← Int.sub_sub] at h1
    exact h1
theorem sq_35 {n F S ax : Nat} {g : Nat → Nat → Nat} {page sines col : Nat → Int32} {G R : Nat → Int64} {kb9 : kb9T} (hF : 8 < F) (hg : WG n g) (hp : PP n g page) (hsn : ∀ j, j < 12 → sines j = sinT j) (hax : ax < 3) (hK : con g n S < 64) (hS : S < 2 ^ 31) (wide : Int32) (up low : Int64) (c D : Int) (work : Nat → Int64) : ∀ (k l fuel : Nat), k + l = n → k < fuel → f_X6_laySquares_L35 F sines page kb9 fuel wide up low col G R work (nI S) (nI (con g n S)) (iL (c + D * V2 g n S ax l)) (iL D) (nI ax) (nI l) = f_X6_laySquares_L101 F sines page kb9 F wide up low col G R work (nI S) (nI (con g n S)) (iL (c + D * V2 g n S ax n)) (iL D) (nI ax) (0 : Int32) := by
  have hn := hg.1
  intro k
  induction k with
  | zero =>
    intro l fuel hk hf
    have e : l = n := by omega
    subst e
    obtain ⟨f, rfl⟩ : ∃ f, fuel = f + 1 := ⟨fuel - 1, by omega⟩
    show f_X6_laySquares_B35 F sines page kb9 _ _ _ _ _ _ _ _ _ _ _ _ _ _ = _
    unfold f_X6_laySquares_B35
    rw [chk_0 (by omega) (by omega), show Int32.toNatClampNeg (0 : Int32) = 0 from rfl, hp.1, if_pos (nI_le (Nat.le_refl l) (by omega))]
  | succ k ih =>
    intro l fuel hk hf
    obtain ⟨f, rfl⟩ : ∃ f, fuel = f + 1 := ⟨fuel - 1, by omega⟩
    have hl : l < n := by omega
    have hi := ih (l + 1) f (by omega) (by omega)
    have ev : V2 g n S ax (l + 1) = V2 g n S ax l + (if uS g S (con g n S) l = true then vI g ax l * vI g ax l else 0) := rfl
    have cc : ¬ nI n ≤ nI l := nI_ge hl (by omega)
    have os : f_X6_stepOf (nI l) (nI ax) sines page = some (vc g l ax) := e_stepOf hg hp hsn hl hax
    show f_X6_laySquares_B35 F sines page kb9 (f_X6_laySquares_L35 F sines page kb9 f) _ _ _ _ _ _ _ _ _ _ _ _ _ = _
    unfold f_X6_laySquares_B35 f_X6_laySquares_J88 f_X6_laySquares_J89
    rw [chk_0 (by omega) (by omega), show Int32.toNatClampNeg (0 : Int32) = 0 from rfl, hp.1, if_neg cc, os, e_has6 hS (by omega), e_tiedLeg hg hp hK hl]
    simp only [bnd1_some', i01, nmd, nI_1]
    cases hb : uS g S (con g n S) l with
    | false =>
      rw [ev, hb, if_neg (by decide), Int.add_zero] at hi
      have e0 : iL (c + D * V2 g n S ax l) + (0 : Int64) = iL (c + D * V2 g n S ax l) := Int64.add_zero _
      unfold uS at hb
      by_cases d : S.testBit l = false
      · rw [if_pos d, e0]; exact hi
      · rw [if_neg d]
        have d2 : (con g n S).testBit (g l 4) = false := by
          cases d3 : S.testBit l with
          | false => exact absurd d3 d
          | true => rw [d3] at hb; exact hb
        rw [if_pos d2, e0]; exact hi
    | true =>
      have hb2 : S.testBit l = true ∧ (con g n S).testBit (g l 4) = true := by
        unfold uS at hb
        exact (Bool.and_eq_true _ _).mp hb
      rw [ev, hb, if_pos rfl] at hi
      rw [if_neg (by rw [hb2.1]; decide), if_neg (by rw [hb2.2]; decide), vc_L, iL_mul, iL_mul, iL_add]
      have ee : c + D * V2 g n S ax l + D * vI g ax l * vI g ax l = c + D * (V2 g n S ax l + vI g ax l * vI g ax l) := by grind
      rw [ee]
      exact hi
theorem sq_9 {n F S : Nat} {g : Nat → Nat → Nat} {page sines : Nat → Int32} (hF : 100 < F) (hg : WG n g) (hp : PP n g page) (hsn : ∀ j, j < 12 → sines j = sinT j) (hS : S < 2 ^ n) : ∀ (k ax fuel : Nat) (wide : Int32) (up low x6 : Int64) (col : Nat → Int32) (G R work : Nat → Int64), k + ax = 3 → k < fuel → (0 < ax → x6 = iL (DD g n S)) → ∃ wide' col' G' R' work', f_X6_laySquares_L9 F sines page fuel wide up low col G R work (nI S) (nI (con g n S)) (iL (sg (qx g n S) ax)) x6 (nI ax) = some (wide', sd 1 (sr g n S) (DD g n S).toNat, sd 0 (sr g n S) (DD g n S).toNat, col', G', R', work') := by
  have hn := hg.1
  have hp2 : 2 ^ n ≤ 256 := p2_256 hg.1
  have hK := con_lt hg.lw hS
  obtain ⟨d1, d2, d3⟩ := DD_lN hg hS
  obtain ⟨s1, s2⟩ := sr_bd hg hS
  intro k
  induction k with
  | zero =>
    intro ax fuel wide up low x6 col G R work hk hf hx
    have e : ax = 3 := by omega
    subst e
    obtain ⟨f, rfl⟩ : ∃ f, fuel = f + 1 := ⟨fuel - 1, by omega⟩
    refine ⟨wide, col, G, R, work, ?_⟩
    show f_X6_laySquares_B9 F sines page _ _ _ _ _ _ _ _ _ _ _ _ _ = _
    unfold f_X6_laySquares_B9
    rw [if_pos (show (3 : Int32) ≤ nI 3 from nI_le (Nat.le_refl 3) (by omega)), hx (by omega), d1, show sg (qx g n S) 3 = sr g n S from rfl, e_layF (by omega) (by omega) d2 (by omega)]
    rfl
  | succ k ih =>
    intro ax fuel wide up low x6 col G R work hk hf hx
    obtain ⟨f, rfl⟩ : ∃ f, fuel = f + 1 := ⟨fuel - 1, by omega⟩
    obtain ⟨col1, G1, R1, l1, l2, l3⟩ := e_layGram (F := F) (S := S) (K := con g n S) (ax := ax) (by omega) hg hp hsn (by omega) hK (by omega) wide col G R
    obtain ⟨w2, m2⟩ := e_det9 (F := F) work (by omega) hg hS l3
    have m3 := sq_35 (F := F) (S := S) (ax := ax) (col := col1) (G := G1) (R := R1) (kb9 := f_X6_laySquares_L9 F sines page f) (by omega) hg hp hsn (by omega) hK (by omega) (nI (wd (con g n S))) up low (sg (qx g n S) ax) (DD g n S) w2 n 0 F (by omega) (by omega)
    obtain ⟨w4, m4⟩ := sq_101 (F := F) (S := S) (ax := ax) (page := page) (sines := sines) (col := col1) (kb9 := f_X6_laySquares_L9 F sines page f) (by omega) hg (by omega) l3 up low (sg (qx g n S) ax + DD g n S * V2 g n S ax n) (nI (con g n S)) (iL (DD g n S)) (wd (con g n S)) 0 F w2 (by omega) (by have := wd_le (con g n S); omega)
    obtain ⟨wide', col', G', R', work', h1⟩ := ih (ax + 1) f (nI (wd (con g n S))) up low (iL (DD g n S)) col1 G1 R1 w4 (by omega) (by omega) (fun _ => rfl)
    refine ⟨wide', col', G', R', work', ?_⟩
    show f_X6_laySquares_B9 F sines page (f_X6_laySquares_L9 F sines page f) _ _ _ _ _ _ _ _ _ _ _ _ = _
    unfold f_X6_laySquares_B9
    have cc : ¬ (3 : Int32) ≤ nI ax := fun h => absurd ((nI_leI (a := 3) (by omega) (by omega)).mp h) (by omega)
    rw [if_neg cc, l1]
    simp only [bnd4]
    rw [m2]
    simp only [bnd2]
    have z1 : sg (qx g n S) ax = sg (qx g n S) ax + DD g n S * V2 g n S ax 0 := by
      have : V2 g n S ax 0 = 0 := rfl
      rw [this, Int.mul_zero, Int.add_zero]
    have z2 : sg (qx g n S) ax + DD g n S * V2 g n S ax n = sg (qx g n S) ax + DD g n S * V2 g n S ax n - sg (fun a => rC g n S (con g n S) (vI g ax) a * dt (wd (con g n S)) (rp (mC g n S (con g n S)) a (rC g n S (con g n S) (vI g ax)))) 0 := (Int.sub_zero _).symm
    have z3 : sg (qx g n S) (ax + 1) = sg (qx g n S) ax + DD g n S * V2 g n S ax n - RN g n S ax := by
      show sg (qx g n S) ax + qx g n S ax = _
      unfold qx
      omega
    rw [z3] at h1
    rw [RN_c hg.lw hS] at m4
    rw [← z1] at m3
    rw [← z2] at m4
    rw [show (0 : Int32) = nI 0 from rfl, m3, show (0 : Int32) = nI 0 from rfl, m4]
    exact h1
theorem e_laySq {n F S : Nat} {g : Nat → Nat → Nat} {page sines : Nat → Int32} (hF : 100 < F) (hg : WG n g) (hp : PP n g page) (hsn : ∀ j, j < 12 → sines j = sinT j) (hS : S < 2 ^ n) (wide : Int32) (up low : Int64) (col : Nat → Int32) (G R work : Nat → Int64) : ∃ wide' col' G' R' work', f_X6_laySquares F (nI S) (nI (con g n S)) wide up low sines col G R work page = some (wide', sd 1 (sr g n S) (DD g n S).toNat, sd 0 (sr g n S) (DD g n S).toNat, col', G', R', work') := by
  obtain ⟨wide', col', G', R', work', h⟩ := sq_9 (F := F) hF hg hp hsn hS 3 0 F wide up low 1 col G R work (by omega) (by omega) (fun h => absurd h (Nat.lt_irrefl 0))
  exact ⟨wide', col', G', R', work', h⟩
theorem dvd_I {g : Nat} {x : Int} (h : g ∣ x.natAbs) : ∃ q : Int, x = (g : Int) * q := by
  obtain ⟨d, hd⟩ := h
  have t : ((x.natAbs : Nat) : Int) = (g : Int) * (d : Int) := by rw [hd, Int.natCast_mul]
  rcases Int.natAbs_eq x with e | e
  · exact ⟨d, e.trans t⟩
  · exact ⟨-d, by rw [Int.mul_neg, ← t]; exact e⟩
theorem sd_mul {d y : Nat} {x : Int} (x4 : Int32) (hd : 0 < d) (hy : 0 < y) (h1 : d * y < 2 ^ 62) (h2 : d * x.natAbs < 2 ^ 62) : sd x4 (d * x) (d * y) = sd x4 x y := by
  have g0 := Nat.gcd_pos_of_pos_left x.natAbs hy
  have e1 : ((d : Int) * x).natAbs = d * x.natAbs := by rw [Int.natAbs_mul]; rfl
  have gy : Nat.gcd y x.natAbs ≤ y := Nat.gcd_le_left _ hy
  have by1 : y ≤ d * y := Nat.le_mul_of_pos_left y hd
  have by2 : d * Nat.gcd y x.natAbs ≤ d * y := Nat.mul_le_mul_left d gy
  have by3 : x.natAbs ≤ d * x.natAbs := Nat.le_mul_of_pos_left _ hd
  unfold sd
  rw [e1, Nat.gcd_mul_left]
  by_cases c : x4 = 0
  · rw [if_pos c, if_pos c, pk_lDiv (by omega) (Nat.mul_pos hd g0) (by omega), pk_lDiv (by omega) g0 (by omega), Nat.mul_div_mul_left _ _ hd]
  · rw [if_neg c, if_neg c]
    obtain ⟨q, hq⟩ := dvd_I (Nat.gcd_dvd_right y x.natAbs)
    rw [lN_iL (show d * Nat.gcd y x.natAbs < 2 ^ 63 by omega), lN_iL (show Nat.gcd y x.natAbs < 2 ^ 63 by omega)]
    have g1 : ((Nat.gcd y x.natAbs : Nat) : Int) ≠ 0 := by omega
    have g2 : ((d * Nat.gcd y x.natAbs : Nat) : Int) ≠ 0 := by
      have := Nat.mul_pos hd g0
      omega
    rw [iL_div (q := q) (by rw [e1]; omega) (by omega) g2 (by rw [Int.natCast_mul]; generalize ((Nat.gcd y x.natAbs : Nat) : Int) = z at hq; rw [hq]; grind), iL_div (q := q) (by omega) (by omega) g1 (by rw [Int.mul_comm]; exact hq)]
theorem core_squares {N n F : Nat} {g : Nat → Nat → Nat} {size st stations : Int32} {rows page sines : Nat → Int32} (hF : 100 < F) (h : CV N n g size st rows stations page) (hsn : ∀ j, j < 12 → sines j = sinT j) (y1 th wide : Int32) (dv ss up low : Int64) (eq : Nat → Int64) (column : Nat → Int32) (gram right work : Nat → Int64) : ∃ r dv' ss' eq' wide' up' low' column' gram' right' work', f_X5_squares F y1 size rows dv ss eq = some (r, dv', ss', eq') ∧ f_X6_squares F y1 th wide up low page sines column gram right work = some (r, 0, wide', up', low', column', gram', right', work') := by
  obtain ⟨hw, ⟨rfl, rfl, hr⟩, hp, rfl⟩ := h
  have hg := hw.wg
  have hn := hw.1
  have hp2 : 2 ^ n ≤ 256 := p2_256 hg.1
  have hA := all_lt n
  obtain ⟨w1, a1, a2⟩ := e_adjust (F := F) (by omega) hg hr hA dv ss eq
  obtain ⟨d1, d2, d3⟩ := DD_lN hg hA
  obtain ⟨d4, d5⟩ := DD_14 hg.lw hA
  obtain ⟨s1, s2⟩ := sr_bd hg hA
  obtain ⟨wide', col', G', R', work', q⟩ := e_laySq (F := F) (by omega) hg hp hsn hA wide up low column gram right work
  have dn : ((DD g n (2 ^ n - 1)).toNat : Int) = DD g n (2 ^ n - 1) := by omega
  have b1 : (DD g n (2 ^ n - 1)).toNat * (DD g n (2 ^ n - 1)).toNat ≤ 1400 * 1400 := Nat.mul_le_mul (by omega) (by omega)
  have b2 : (DD g n (2 ^ n - 1)).toNat * (sr g n (2 ^ n - 1)).natAbs ≤ 1400 * 329313600 := Nat.mul_le_mul (by omega) (by omega)
  have b3 : (DD g n (2 ^ n - 1) * sr g n (2 ^ n - 1)).natAbs ≤ 1400 * 329313600 := ab_mul (by omega) (by omega)
  have hx := sd_mul (x := sr g n (2 ^ n - 1)) y1 d2 d2 (by omega) (by omega)
  rw [dn] at hx
  refine ⟨sd y1 (sr g n (2 ^ n - 1)) (DD g n (2 ^ n - 1)).toNat, iL (DD g n (2 ^ n - 1)), iL (SS g n (2 ^ n - 1)), w1, wide', sd 1 (sr g n (2 ^ n - 1)) (DD g n (2 ^ n - 1)).toNat, sd 0 (sr g n (2 ^ n - 1)) (DD g n (2 ^ n - 1)).toNat, col', G', R', work', ?_, ?_⟩
  rotate_left 1
  · unfold f_X6_squares
    rw [e_all6 hn hp.1]
    simp only [bnd1_some']
    rw [e_tied (by omega) hg hA hp, show rch g (2 ^ n - 1) n 6 1 = con g n (2 ^ n - 1) from rfl]
    simp only [bnd1_some']
    rw [q]
    simp only [bnd7]
    rw [e_told]
    rfl
  · unfold f_X5_squares
    rw [e_all0 hn]
    simp only [bnd1_some']
    rw [a1]
    simp only [bnd3]
    rw [SS_sr hg.lw hA, d1, lN_mul, e_lowest y1 (by omega) (by omega) (Nat.mul_pos d2 d2) (by omega), hx]
    rfl
