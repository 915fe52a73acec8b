/-! ===== greatest common divisors ===== -/
theorem lN_iL {a : Nat} (h : a < 2 ^ 63) : lN a = iL a := Int64.toInt_inj.1 (by rw [pk_lT h, iL_int (by omega)])
theorem iL_lN {x : Int} (h0 : 0 ≤ x) (h : x.natAbs < 2 ^ 63) : iL x = lN x.toNat := by
  rw [lN_iL (by omega)]
  congr 1
  omega
theorem gcd_st (a b : Nat) : Nat.gcd a b = Nat.gcd b (a % b) := by rw [Nat.gcd_comm a b, Nat.gcd_rec b a, Nat.gcd_comm]
theorem lN_0 {b : Nat} (hb : b < 2 ^ 63) : (lN b = (0 : Int64)) ↔ b = 0 := pk_lEQ (b := 0) hb (by omega)
theorem half {a b m : Nat} (h : b < 2 ^ (m + 1)) (h0 : a % b ≠ 0) (hb : b ≠ 0) : b % (a % b) < 2 ^ m := by
  have h1 : a % b < b := Nat.mod_lt _ (by omega)
  have h2 : b % (a % b) < a % b := Nat.mod_lt _ (by omega)
  have h3 : b % (a % b) = (b - a % b) % (a % b) := Nat.mod_eq_sub_mod (by omega)
  have h4 := Nat.mod_le (b - a % b) (a % b)
  rw [Nat.pow_succ] at h
  omega
theorem cd5_s {F a b step f : Nat} (ha : a < 2 ^ 62) (hb : b < 2 ^ 62) (h0 : b ≠ 0) (hs : step < 100) : f_X5_commonDivisor_L9 F (f + 1) (lN a) (lN b) (nI step) = f_X5_commonDivisor_L9 F f (lN b) (lN (a % b)) (nI (step + 1)) := by
  show f_X5_commonDivisor_B9 F (f_X5_commonDivisor_L9 F f) _ _ _ = _
  unfold f_X5_commonDivisor_B9
  have c : ¬ (100 : Int32) ≤ nI step := fun h => absurd ((nI_leI (a := 100) (by omega) (by omega)).mp h) (by omega)
  have c2 : ¬ lN b = (0 : Int64) := fun h => h0 ((lN_0 (by omega)).mp h)
  have e : remL (lN a) (lN b) = lN (a % b) := pk_lRem (by omega) (by omega) (by omega)
  rw [if_neg c, if_neg c2, e]
  unfold chkDL
  rw [if_neg c2]
  simp only [nmd, nI_1]
theorem cd5_0 {F a step f : Nat} : f_X5_commonDivisor_L9 F (f + 1) (lN a) (lN 0) (nI step) = some (lN a) := by
  show f_X5_commonDivisor_B9 F (f_X5_commonDivisor_L9 F f) _ _ _ = _
  unfold f_X5_commonDivisor_B9
  by_cases c : (100 : Int32) ≤ nI step
  · rw [if_pos c]
  · rw [if_neg c, if_pos (show lN 0 = (0 : Int64) from rfl)]
theorem cd5_in {F : Nat} : ∀ (m a b step fuel : Nat), b < 2 ^ m → a < 2 ^ 62 → b < 2 ^ 62 → step + 2 * m ≤ 100 → 2 * m < fuel → f_X5_commonDivisor_L9 F fuel (lN a) (lN b) (nI step) = some (lN (Nat.gcd a b)) := by
  intro m
  induction m with
  | zero =>
    intro a b step fuel hb h1 h2 h3 h4
    have e : b = 0 := by omega
    subst e
    obtain ⟨f, rfl⟩ : ∃ f, fuel = f + 1 := ⟨fuel - 1, by omega⟩
    rw [cd5_0, Nat.gcd_zero_right]
  | succ m ih =>
    intro a b step fuel hb h1 h2 h3 h4
    obtain ⟨f, rfl⟩ : ∃ f, fuel = f + 1 := ⟨fuel - 1, by omega⟩
    by_cases e : b = 0
    · subst e
      rw [cd5_0, Nat.gcd_zero_right]
    · have hr : a % b < b := Nat.mod_lt _ (by omega)
      obtain ⟨f2, rfl⟩ : ∃ f2, f = f2 + 1 := ⟨f - 1, by omega⟩
      rw [cd5_s h1 h2 e (by omega), gcd_st a b]
      by_cases e2 : a % b = 0
      · rw [e2, cd5_0, Nat.gcd_zero_right]
      · have hr2 : b % (a % b) < a % b := Nat.mod_lt _ (by omega)
        rw [cd5_s h2 (by omega) e2 (by omega), gcd_st b (a % b)]
        exact ih _ _ _ _ (half hb e2 e) (by omega) (by omega) (by omega) (by omega)
theorem cd6_s {F a b f : Nat} (ha : a < 2 ^ 62) (hb : b < 2 ^ 62) (h0 : b ≠ 0) : f_X6_divisor_L17 F (f + 1) (lN a) (lN b) = f_X6_divisor_L17 F f (lN b) (lN (a % b)) := by
  show f_X6_divisor_B17 F (f_X6_divisor_L17 F f) _ _ = _
  unfold f_X6_divisor_B17
  have c2 : ¬ lN b = (0 : Int64) := fun h => h0 ((lN_0 (by omega)).mp h)
  have e : remL (lN a) (lN b) = lN (a % b) := pk_lRem (by omega) (by omega) (by omega)
  rw [if_neg c2, e]
  unfold chkDL
  rw [if_neg c2]
  simp only [nmd]
theorem cd6_0 {F a f : Nat} : f_X6_divisor_L17 F (f + 1) (lN a) (lN 0) = some (lN a) := by
  show f_X6_divisor_B17 F (f_X6_divisor_L17 F f) _ _ = _
  unfold f_X6_divisor_B17
  rw [if_pos (show lN 0 = (0 : Int64) from rfl)]
theorem cd6_in {F : Nat} : ∀ (m a b fuel : Nat), b < 2 ^ m → a < 2 ^ 62 → b < 2 ^ 62 → 2 * m < fuel → f_X6_divisor_L17 F fuel (lN a) (lN b) = some (lN (Nat.gcd a b)) := by
  intro m
  induction m with
  | zero =>
    intro a b fuel hb h1 h2 h4
    have e : b = 0 := by omega
    subst e
    obtain ⟨f, rfl⟩ : ∃ f, fuel = f + 1 := ⟨fuel - 1, by omega⟩
    rw [cd6_0, Nat.gcd_zero_right]
  | succ m ih =>
    intro a b fuel hb h1 h2 h4
    obtain ⟨f, rfl⟩ : ∃ f, fuel = f + 1 := ⟨fuel - 1, by omega⟩
    by_cases e : b = 0
    · subst e
      rw [cd6_0, Nat.gcd_zero_right]
    · have hr : a % b < b := Nat.mod_lt _ (by omega)
      obtain ⟨f2, rfl⟩ : ∃ f2, f = f2 + 1 := ⟨f - 1, by omega⟩
      rw [cd6_s h1 h2 e, gcd_st a b]
      by_cases e2 : a % b = 0
      · rw [e2, cd6_0, Nat.gcd_zero_right]
      · have hr2 : b % (a % b) < a % b := Nat.mod_lt _ (by omega)
        rw [cd6_s h2 (by omega) e2, gcd_st b (a % b)]
        exact ih _ _ _ (half hb e2 e) (by omega) (by omega) (by omega)
theorem abs_iL {x : Int} (h : x.natAbs < 2 ^ 62) : absL (iL x) = lN x.natAbs := by
  unfold absL
  rw [lN_iL (by omega)]
  by_cases c : 0 < x
  · rw [if_pos (by rw [fa_lt64, lit_0L, iL_int (by omega)]; exact c)]
    congr 1
    omega
  · rw [if_neg (by rw [fa_lt64, lit_0L, iL_int (by omega)]; exact c), iL_neg]
    congr 1
    omega
/-- one side of a fraction -/
def sd (x4 : Int32) (x : Int) (y : Nat) : Int64 := (if x4 = 0 then lN y else iL x) / lN (Nat.gcd y x.natAbs)
theorem gcd_pos {x : Int} {y : Nat} (hy : 0 < y) (hy2 : y < 2 ^ 62) : ¬ lN (Nat.gcd y x.natAbs) = (0 : Int64) := fun h => by
  have h1 := Nat.gcd_le_left x.natAbs hy
  have h2 := Nat.gcd_pos_of_pos_left x.natAbs hy
  have := (lN_0 (by omega)).mp h
  omega
theorem e_lowest {F y : Nat} {x : Int} (x4 : Int32) (hF : 100 < F) (hx : x.natAbs < 2 ^ 50) (hy : 0 < y) (hy2 : y < 2 ^ 62) : f_X5_lowest F (iL x) (lN y) x4 = some (sd x4 x y) := by
  unfold f_X5_lowest f_X5_commonDivisor f_X5_lowest_J20 sd
  rw [abs_iL (by omega), show (0 : Int32) = nI 0 from rfl, cd5_in 50 y x.natAbs 0 F (by omega) hy2 (by omega) (by omega) (by omega)]
  simp only [bnd1_some']
  rw [if_neg (gcd_pos hy hy2), if_neg (gcd_pos hy hy2)]
  unfold chkDL
  rw [if_neg (gcd_pos hy hy2), if_neg (gcd_pos hy hy2)]
  by_cases c : x4 = nI 0
  · rw [if_pos c, if_pos c]
  · rw [if_neg c, if_neg c]
theorem e_divisor {F y : Nat} {x : Int} (hF : 100 < F) (hx : x.natAbs < 2 ^ 62) (hy2 : y < 2 ^ 49) : f_X6_divisor F (iL x) (lN y) = some (lN (Nat.gcd y x.natAbs)) := by
  unfold f_X6_divisor f_X6_divisor_J12
  have h := cd6_in (F := F) 49 x.natAbs y F hy2 hx (by omega) (by omega)
  rw [Nat.gcd_comm] at h
  by_cases c : 0 ≤ x
  · rw [if_pos (by rw [fa_le64, lit_0L, iL_int (by omega)]; exact c)]
    rw [lN_iL (show x.natAbs < 2 ^ 63 by omega), show (x.natAbs : Int) = x by omega] at h
    exact h
  · rw [if_neg (by rw [fa_le64, lit_0L, iL_int (by omega)]; exact c), iL_neg]
    rw [lN_iL (show x.natAbs < 2 ^ 63 by omega), show (x.natAbs : Int) = -x by omega] at h
    exact h
theorem e_layF {F y : Nat} {x : Int} (hF : 100 < F) (hx : x.natAbs < 2 ^ 62) (hy : 0 < y) (hy2 : y < 2 ^ 49) (up low : Int64) : f_X6_layFraction F (iL x) (lN y) up low = some (sd 1 x y, sd 0 x y) := by
  unfold f_X6_layFraction
  rw [e_divisor hF hx hy2]
  simp only [bnd1_some', nmd]
  unfold chkDL
  rw [if_neg (gcd_pos hy (by omega)), if_neg (gcd_pos hy (by omega))]
  rfl
theorem e_told (x4 : Int32) (x : Int) (y : Nat) : f_X6_told x4 (sd 1 x y) (sd 0 x y) = some (sd x4 x y) := by
  unfold f_X6_told sd
  by_cases c : x4 = 0
  · rw [if_pos c, if_pos c, if_pos rfl]
  · rw [if_neg c, if_neg c, if_neg (show ¬ (1 : Int32) = 0 by decide)]
/-! ===== numbers of stations ===== -/
theorem eC_1 (K f t a : Nat) : (eC K f t a).natAbs ≤ 1 := by
  unfold eC
  by_cases c : cl K t = a <;> by_cases d : cl K f = a <;> simp [c, d]
theorem mC_bd {n : Nat} {g : Nat → Nat → Nat} (hg : WG n g) (S K a b : Nat) : (mC g n S K a b).natAbs ≤ 9 := by
  have hn := hg.1
  unfold mC
  have h1 : (sg (fun l => if uS g S K l = true then ec g K l a * ec g K l b else 0) n).natAbs ≤ fb_sm (fun _ => 1) n := sg_ab (fun l hl => by
    split
    · exact ab_mul (eC_1 K _ _ a) (eC_1 K _ _ b)
    · exact Nat.zero_le _)
  rw [sm_const] at h1
  omega
theorem rC_bd {n : Nat} {g : Nat → Nat → Nat} (hg : WG n g) (S K a : Nat) {ax : Nat} (hax : ax < 3) : (rC g n S K (vI g ax) a).natAbs ≤ 792 := by
  have hn := hg.1
  unfold rC
  have h1 : (sg (fun l => if uS g S K l = true then vI g ax l * ec g K l a else 0) n).natAbs ≤ fb_sm (fun _ => 99 * 1) n := sg_ab (fun l hl => by
    split
    · exact ab_mul (vI_bd hg hl hax) (eC_1 K _ _ a)
    · exact Nat.zero_le _)
  rw [sm_const] at h1
  omega
theorem used_2 {n : Nat} {g : Nat → Nat → Nat} (hw : LW n g) {S l : Nat} (hS : S < 2 ^ n) (hl : l < n) (h : uS g S (con g n S) l = true) : (con g n S).testBit (g l 4) = true ∧ (con g n S).testBit (g l 5) = true := by
  unfold uS at h
  obtain ⟨h1, h2⟩ := (Bool.and_eq_true _ _).mp h
  exact ⟨h2, by rw [← con_tie hw hS hl h1]; exact h2⟩
theorem cl_eq {K s i : Nat} (hs : K.testBit s = true) (hi : onK K i = true) (hi5 : i < 5) : (cl K s = cnt (onK K) i) ↔ s = i + 1 := by
  have hc := cnt_le (onK K) i
  by_cases s0 : s = 0
  · subst s0
    have : cl K 0 = 9 := rfl
    rw [this]
    omega
  · obtain ⟨t, rfl⟩ : ∃ t, s = t + 1 := ⟨s - 1, by omega⟩
    rw [cl_on (i := t) hs]
    constructor
    · intro q; rw [cnt_inj (P := onK K) hs hi q]
    · intro q
      have : t = i := by omega
      rw [this]
theorem el_on {n : Nat} {g : Nat → Nat → Nat} (hw : LW n g) {S l i : Nat} (hS : S < 2 ^ n) (hl : l < n) (h : uS g S (con g n S) l = true) (hi5 : i < 5) (hi : onK (con g n S) i = true) : el g l i = ec g (con g n S) l (cnt (onK (con g n S)) i) := by
  obtain ⟨h4, h5⟩ := used_2 hw hS hl h
  unfold el ec eL eC
  simp only [cl_eq h4 hi hi5, cl_eq h5 hi hi5]
theorem el_off {n : Nat} {g : Nat → Nat → Nat} (hw : LW n g) {S l i : Nat} (hS : S < 2 ^ n) (hl : l < n) (h : uS g S (con g n S) l = true) (hi : onK (con g n S) i = false) : el g l i = 0 := by
  obtain ⟨h4, h5⟩ := used_2 hw hS hl h
  unfold el eL
  have hi' : (con g n S).testBit (i + 1) = false := hi
  rw [if_neg (fun q => by rw [q, hi'] at h5; cases h5), if_neg (fun q => by rw [q, hi'] at h4; cases h4)]
  rfl
theorem mM_on {n : Nat} {g : Nat → Nat → Nat} (hw : LW n g) {S i j : Nat} (hS : S < 2 ^ n) (hi5 : i < 5) (hj5 : j < 5) (hi : onK (con g n S) i = true) (hj : onK (con g n S) j = true) : mM g n S (con g n S) i j = mC g n S (con g n S) (cnt (onK (con g n S)) i) (cnt (onK (con g n S)) j) := by
  unfold mM mC
  have hi' : (con g n S).testBit (i + 1) = true := hi
  rw [if_neg (fun q => by rw [hi'] at q; cases q.2), Int.add_zero]
  apply sg_cong
  intro l hl
  by_cases c : uS g S (con g n S) l = true
  · rw [if_pos c, if_pos c, el_on hw hS hl c hi5 hi, el_on hw hS hl c hj5 hj]
  · rw [if_neg c, if_neg c]
theorem mM_off {n : Nat} {g : Nat → Nat → Nat} (hw : LW n g) {S i j : Nat} (hS : S < 2 ^ n) (h : onK (con g n S) i = false ∨ onK (con g n S) j = false) : mM g n S (con g n S) i j = if i = j then 1 else 0 := by
  unfold mM
  rw [sg_zero (fun l hl => ?_), Int.zero_add]
  · by_cases c : i = j
    · subst c
      have h' : (con g n S).testBit (i + 1) = false := by rcases h with h | h <;> exact h
      rw [if_pos ⟨rfl, h'⟩, if_pos rfl]
    · rw [if_neg (fun q => c q.1), if_neg c]
  · by_cases c : uS g S (con g n S) l = true
    · rw [if_pos c]
      rcases h with h | h
      · rw [el_off hw hS hl c h, Int.zero_mul]
      · rw [el_off hw hS hl c h, Int.mul_zero]
    · rw [if_neg c]
theorem rV_on {n : Nat} {g : Nat → Nat → Nat} (hw : LW n g) {S i : Nat} (v : Nat → Int) (hS : S < 2 ^ n) (hi5 : i < 5) (hi : onK (con g n S) i = true) : rV g n S (con g n S) v i = rC g n S (con g n S) v (cnt (onK (con g n S)) i) := by
  unfold rV rC
  apply sg_cong
  intro l hl
  by_cases c : uS g S (con g n S) l = true
  · rw [if_pos c, if_pos c, el_on hw hS hl c hi5 hi]
  · rw [if_neg c, if_neg c]
theorem rV_off {n : Nat} {g : Nat → Nat → Nat} (hw : LW n g) {S i : Nat} (v : Nat → Int) (hS : S < 2 ^ n) (hi : onK (con g n S) i = false) : rV g n S (con g n S) v i = 0 := by
  unfold rV
  apply sg_zero
  intro l hl
  by_cases c : uS g S (con g n S) l = true
  · rw [if_pos c, el_off hw hS hl c hi, Int.mul_zero]
  · rw [if_neg c]
theorem DD_c {n : Nat} {g : Nat → Nat → Nat} (hw : LW n g) {S : Nat} (hS : S < 2 ^ n) : dt (wd (con g n S)) (mC g n S (con g n S)) = DD g n S := (dt_cpt (P := onK (con g n S)) 5 (fun _ hi _ hj pi pj => mM_on hw hS hi hj pi pj) (fun _ _ _ _ h => mM_off hw hS h)).symm
theorem NN_c {n : Nat} {g : Nat → Nat → Nat} (hw : LW n g) {S ax i : Nat} (hS : S < 2 ^ n) (hi5 : i < 5) (hi : onK (con g n S) i = true) : dt (wd (con g n S)) (rp (mC g n S (con g n S)) (cnt (onK (con g n S)) i) (rC g n S (con g n S) (vI g ax))) = NN g n S ax i := (dt_cpt (P := onK (con g n S)) 5 (M := rp (mM g n S (con g n S)) i (rV g n S (con g n S) (vI g ax))) (fun a ha b hb pa pb => by
  by_cases e : b = i
  · rw [e, rp_s, rp_s]; exact rV_on hw _ hS ha pa
  · rw [rp_n _ _ _ e, rp_n _ _ _ (fun q => e (cnt_inj pb hi q))]; exact mM_on hw hS ha hb pa pb) (fun a ha b hb h => by
  by_cases e : b = i
  · rw [e, rp_s]
    have ha2 : onK (con g n S) a = false := by
      rcases h with h | h
      · exact h
      · rw [e, hi] at h; cases h
    rw [rV_off hw _ hS ha2, if_neg (fun q => by rw [q, hi] at ha2; cases ha2)]
  · rw [rp_n _ _ _ e]; exact mM_off hw hS h)).symm
theorem e_det9 {n F S ax : Nat} {g : Nat → Nat → Nat} {G R : Nat → Int64} (work : Nat → Int64) (hF : 8 < F) (hg : WG n g) (hS : S < 2 ^ n) (h : GI g S (con g n S) ax n G R) : ∃ r', f_X6_determinant F (-9 : Int32) (nI (wd (con g n S))) G R work = some (iL (DD g n S), r') := by
  have hw5 := wd_le (con g n S)
  rw [← DD_c hg.lw hS]
  refine e_det (k := 5) (-9 : Int32) work hF hw5 (by omega) (fun r hr c hc => ?_) (fun a ha b hb => ?_)
  · unfold wt
    rw [if_neg (by omega)]
    exact mC_bd hg _ _ _ _
  · rw [if_neg (nI_n9 (by omega))]
    exact h.1 a (by omega) b (by omega)
theorem e_detk {n F S ax k : Nat} {g : Nat → Nat → Nat} {G R : Nat → Int64} (work : Nat → Int64) (hF : 8 < F) (hg : WG n g) (hax : ax < 3) (h : GI g S (con g n S) ax n G R) (hk : k < wd (con g n S)) : ∃ r', f_X6_determinant F (nI k) (nI (wd (con g n S))) G R work = some (iL (dt (wd (con g n S)) (rp (mC g n S (con g n S)) k (rC g n S (con g n S) (vI g ax)))), r') := by
  have hw5 := wd_le (con g n S)
  refine e_det (k := k) (nI k) work hF hw5 (by omega) (fun r hr c hc => ?_) (fun a ha b hb => ?_)
  · unfold wt
    by_cases e : c = k
    · rw [e, rp_s, if_pos rfl]; exact rC_bd hg _ _ _ hax
    · rw [rp_n _ _ _ e, if_neg e]; exact mC_bd hg _ _ _ _
  · by_cases e : b = k
    · rw [e, rp_s, if_pos rfl]; exact h.2 a (by omega)
    · rw [rp_n _ _ _ e, if_neg (fun q => e ((nI_eq (by omega) (by omega)).mp q))]; exact h.1 a (by omega) b (by omega)
theorem e_number {n F S ax s : Nat} {g : Nat → Nat → Nat} {col : Nat → Int32} {G R : Nat → Int64} (work : Nat → Int64) (hF : 8 < F) (hg : WG n g) (hS : S < 2 ^ n) (hax : ax < 3) (h : GI g S (con g n S) ax n G R) (hcol : ∀ t, t < 6 → col t = nC (cl (con g n S) t)) (hs : s < 6) (hb : (con g n S).testBit s = true) : ∃ r', f_X6_numberOf F (nI s) (nI (wd (con g n S))) col G R work = some (iL (Yx (NN g n S ax) s), r') := by
  unfold f_X6_numberOf Yx
  rw [chk_nI hs (by omega), cl_nI (by omega), hcol s hs]
  by_cases c : s = 0
  · subst c
    exact ⟨work, by rw [if_pos rfl, if_pos (show nC (cl (con g n S) 0) = (-9 : Int32) from rfl)]; rfl⟩
  · obtain ⟨i, rfl⟩ : ∃ i, s = i + 1 := ⟨s - 1, by omega⟩
    have hi : onK (con g n S) i = true := hb
    have hlt : cnt (onK (con g n S)) i < wd (con g n S) := cnt_lt (show i < 5 by omega) hi
    have hw5 := wd_le (con g n S)
    obtain ⟨r', e⟩ := e_detk work hF hg hax h hlt
    refine ⟨r', ?_⟩
    rw [cl_on hi, nC_n (by omega), if_neg (nI_n9 (by omega)), chk_nI hs (by omega), e, NN_c hg.lw hS (by omega) hi, if_neg (by omega)]
    rfl
theorem DD_pos {n : Nat} {g : Nat → Nat → Nat} (hg : WG n g) {S : Nat} (hS : S < 2 ^ n) : 0 < DD g n S ∧ (DD g n S).natAbs ≤ 700000000 := by
  refine ⟨mM_pos hg.lw hS (Nat.le_refl 5), ?_⟩
  unfold DD
  rw [← dt_AA (Nat.le_refl 5)]
  exact dt_700 (AA_sm hg S _) (Nat.le_refl 5)
theorem NN_bd {n : Nat} {g : Nat → Nat → Nat} (hg : WG n g) {S ax i : Nat} (hi : i < 5) (hax : ax < 3) : (NN g n S ax i).natAbs ≤ 700000000 := by
  rw [← NN_AA]
  exact Nat.le_trans (cX_bd (AA_sm hg S _) (Nat.le_refl 5) (by omega)) (bb_x 5 (by omega) i hi)
theorem Yx_bd {n : Nat} {g : Nat → Nat → Nat} (hg : WG n g) {S ax s : Nat} (hs : s < 6) (hax : ax < 3) : (Yx (NN g n S ax) s).natAbs ≤ 700000000 := by
  unfold Yx
  by_cases c : s = 0
  · rw [if_pos c]; exact Nat.zero_le _
  · rw [if_neg c]; exact NN_bd hg (by omega) hax
theorem DD_lN {n : Nat} {g : Nat → Nat → Nat} (hg : WG n g) {S : Nat} (hS : S < 2 ^ n) : iL (DD g n S) = lN (DD g n S).toNat ∧ 0 < (DD g n S).toNat ∧ (DD g n S).toNat ≤ 700000000 := by
  obtain ⟨h1, h2⟩ := DD_pos hg hS
  exact ⟨iL_lN (by omega) (by omega), by omega, by omega⟩
theorem all_lt (n : Nat) : 2 ^ n - 1 < 2 ^ n := by
  have h2 := Nat.one_le_two_pow (n := n)
  omega
theorem core_evened {N n F : Nat} {g : Nat → Nat → Nat} {size st stations : Int32} {rows page sines : Nat → Int32} (hF : 100 < F) (h : CV N n g size st rows stations page) (hsn : ∀ j, j < 12 → sines j = sinT j) (y1 y2 y3 th wide : Int32) (dv ss up low : Int64) (eq : Nat → Int64) (column : Nat → Int32) (gram right work : Nat → Int64) : ∃ r dv' ss' eq' wide' up' low' column' gram' right' work', f_X5_evened F y1 y2 y3 size st rows dv ss eq = some (r, dv', ss', eq') ∧ f_X6_evened F y1 y2 y3 th stations wide up low page sines column gram right work = some (r, 0, wide', up', low', column', gram', right', work') := by
  obtain ⟨hw, ⟨rfl, rfl, hr⟩, hp, rfl⟩ := h
  have hN : N ≤ 6 := hw.2.2.1
  have hg := hw.wg
  have hn := hw.1
  have hp2 : 2 ^ n ≤ 256 := p2_256 hg.1
  have hA := all_lt n
  have hK := con_lt hg.lw hA
  obtain ⟨w1, a1, a2⟩ := e_adjust (F := F) (by omega) hg hr hA dv ss eq
  have e9 := v_in y2 2 (by omega)
  rw [show Int64.ofNat 2 = (2 : Int64) from rfl] at e9
  unfold f_X5_evened f_X6_evened
  rw [e_seErr (by omega) hg hN hr, e_noSt y1 (by omega), e_in, e_all6 hn hp.1, e_all0 hn]
  simp only [bnd1_some', e9]
  rw [e_tied (by omega) hg hA hp, show rch g (2 ^ n - 1) n 6 1 = con g n (2 ^ n - 1) from rfl, a1]
  simp only [bnd1_some', bnd3]
  unfold seErr
  rcases st_cases y1 (N := N) (by omega) with h1 | ⟨a, ha, rfl⟩
  · exact ⟨-1, dv, ss, eq, wide, up, low, column, gram, right, work, by rw [if_pos h1]; rfl, by rw [if_neg h1]; rfl⟩
  have hin := in_a ha (show N ≤ 8 by omega)
  rw [if_neg (show ¬ ¬ (0 ≤ (nI a).toInt ∧ (nI a).toInt < N) from fun q => q hin), if_pos hin, if_pos rfl, e_has6 (by omega) (by omega)]
  simp only [bnd1_some', i01, nI_toInt (show a < 2 ^ 31 by omega), Int.toNat_natCast]
  rcases ax_cases y2 with h3 | ⟨ax, hax, rfl⟩
  · exact ⟨-2, dv, ss, eq, wide, up, low, column, gram, right, work, by rw [if_pos (show ¬ (0 ≤ y2.toInt ∧ y2.toInt ≤ 2) by omega)]; rfl, by rw [if_neg (show ¬ (0 ≤ y2.toInt ∧ y2.toInt ≤ (2 : Nat)) by omega)]; rfl⟩
  rw [nI_toInt (show ax < 2 ^ 31 by omega), if_neg (show ¬ ¬ (0 ≤ (ax : Int) ∧ (ax : Int) ≤ 2) by omega), if_pos (show (0 ≤ (ax : Int) ∧ (ax : Int) ≤ (2 : Nat)) by omega), if_neg (show ¬ (1 : Int32) = 0 by decide)]
  cases hb : (con g n (2 ^ n - 1)).testBit a with
  | false => exact ⟨-3, dv, ss, eq, wide, up, low, column, gram, right, work, by simp, by simp⟩
  | true =>
    obtain ⟨d1, d2, d3⟩ := DD_lN hg hA
    have hy := Yx_bd hg (S := 2 ^ n - 1) (ax := ax) (s := a) (by omega) hax
    obtain ⟨col, G, R, l1, l2, l3⟩ := e_layGram (F := F) (S := 2 ^ n - 1) (K := con g n (2 ^ n - 1)) (by omega) hg hp hsn hax hK (by omega) wide column gram right
    obtain ⟨k1, m1⟩ := e_number (F := F) work (by omega) hg hA hax l3 l2 (show a < 6 by omega) hb
    obtain ⟨k2, m2⟩ := e_det9 (F := F) k1 (by omega) hg hA l3
    rw [if_pos rfl, if_pos rfl, if_neg (show ¬ (true = false) by decide), e_coord a2 (by omega) hax, l1]
    simp only [bnd1_some', bnd4]
    rw [m1]
    simp only [bnd2]
    rw [m2, d1]
    simp only
    rw [e_lowest y3 (by omega) (by omega) d2 (by omega), e_layF (by omega) (by omega) d2 (by omega)]
    simp only [bnd1_some', e_told]
    exact ⟨_, _, _, _, _, _, _, _, _, _, _, rfl, rfl⟩
theorem core_rest {N n F : Nat} {g : Nat → Nat → Nat} {size st stations : Int32} {rows page sines : Nat → Int32} (hF : 100 < F) (h : CV N n g size st rows stations page) (hsn : ∀ j, j < 12 → sines j = sinT j) (y1 y2 y3 th wide : Int32) (dv ss up low : Int64) (eq : Nat → Int64) (column : Nat → Int32) (gram right work : Nat → Int64) : ∃ r dv' ss' eq' wide' up' low' column' gram' right' work', f_X5_rest F y1 y2 y3 size rows dv ss eq = some (r, dv', ss', eq') ∧ f_X6_rest F y1 y2 y3 th wide up low page sines column gram right work = some (r, 0, wide', up', low', column', gram', right', work') := by
  obtain ⟨hw, ⟨rfl, rfl, hr⟩, hp, rfl⟩ := h
  have hg := hw.wg
  have hn := hw.1
  have hp2 : 2 ^ n ≤ 256 := p2_256 hg.1
  have hA := all_lt n
  have hK := con_lt hg.lw hA
  obtain ⟨w1, a1, a2⟩ := e_adjust (F := F) (by omega) hg hr hA dv ss eq
  have e9 := v_in y2 2 (by omega)
  rw [show Int64.ofNat 2 = (2 : Int64) from rfl] at e9
  unfold f_X5_rest f_X6_rest
  rw [e_leErr (by omega) hg hr, e_noLeg y1 hn hp.1, e_in, e_all6 hn hp.1, e_all0 hn]
  simp only [bnd1_some', e9]
  rw [e_tied (by omega) hg hA hp, show rch g (2 ^ n - 1) n 6 1 = con g n (2 ^ n - 1) from rfl, a1]
  simp only [bnd1_some', bnd3]
  unfold leErr
  rcases st_cases y1 hn with h1 | ⟨l, hl, rfl⟩
  · exact ⟨-1, dv, ss, eq, wide, up, low, column, gram, right, work, by rw [if_pos h1]; rfl, by rw [if_neg h1]; rfl⟩
  have hin := in_a hl hn
  rw [if_neg (show ¬ ¬ (0 ≤ (nI l).toInt ∧ (nI l).toInt < n) from fun q => q hin), if_pos hin, if_pos rfl, e_tiedLeg hg hp hK hl]
  simp only [bnd1_some', i01, nI_toInt (show l < 2 ^ 31 by omega), Int.toNat_natCast]
  rcases ax_cases y2 with h3 | ⟨ax, hax, rfl⟩
  · exact ⟨-2, dv, ss, eq, wide, up, low, column, gram, right, work, by rw [if_pos (show ¬ (0 ≤ y2.toInt ∧ y2.toInt ≤ 2) by omega)]; rfl, by rw [if_neg (show ¬ (0 ≤ y2.toInt ∧ y2.toInt ≤ (2 : Nat)) by omega)]; rfl⟩
  rw [nI_toInt (show ax < 2 ^ 31 by omega), if_neg (show ¬ ¬ (0 ≤ (ax : Int) ∧ (ax : Int) ≤ 2) by omega), if_pos (show (0 ≤ (ax : Int) ∧ (ax : Int) ≤ (2 : Nat)) by omega), if_neg (show ¬ (1 : Int32) = 0 by decide)]
  cases hb : (con g n (2 ^ n - 1)).testBit (g l 4) with
  | false => exact ⟨-3, dv, ss, eq, wide, up, low, column, gram, right, work, by simp, by simp⟩
  | true =>
    have h2 := hg.2 l hl
    obtain ⟨d1, d2, d3⟩ := DD_lN hg hA
    have hb5 : (con g n (2 ^ n - 1)).testBit (g l 5) = true := by rw [← con_tie hg.lw hA hl (all_in hl)]; exact hb
    have hy4 := Yx_bd hg (S := 2 ^ n - 1) (ax := ax) (s := g l 4) (by omega) hax
    have hy5 := Yx_bd hg (S := 2 ^ n - 1) (ax := ax) (s := g l 5) (by omega) hax
    have hv := vI_bd hg hl hax
    have hD := (DD_pos hg hA).2
    have hvD := ab_mul hv hD
    have hrb : (rsd g (DD g n (2 ^ n - 1)) (NN g n (2 ^ n - 1)) l ax).natAbs < 2 ^ 50 := by
      unfold rsd dl dY
      omega
    obtain ⟨col, G, R, l1, l2, l3⟩ := e_layGram (F := F) (S := 2 ^ n - 1) (K := con g n (2 ^ n - 1)) (by omega) hg hp hsn hax hK (by omega) wide column gram right
    obtain ⟨k2, m2⟩ := e_det9 (F := F) work (by omega) hg hA l3
    obtain ⟨k3, m3⟩ := e_number (F := F) k2 (by omega) hg hA hax l3 l2 (show g l 5 < 6 by omega) hb5
    obtain ⟨k4, m4⟩ := e_number (F := F) k3 (by omega) hg hA hax l3 l2 (show g l 4 < 6 by omega) hb
    have o4 : f_X6_of (nI l) (4 : Int32) page = some (nI (g l 4)) := of_row (j := 4) hp hn hl (by omega)
    have o5 : f_X6_of (nI l) (5 : Int32) page = some (nI (g l 5)) := of_row (j := 5) hp hn hl (by omega)
    have os : f_X6_stepOf (nI l) (nI ax) sines page = some (vc g l ax) := e_stepOf hg hp hsn hl hax
    rw [if_pos rfl, if_pos rfl, if_neg (show ¬ (true = false) by decide), e_residual hg hr a2 hl hax, l1]
    simp only [bnd1_some', bnd4]
    rw [m2]
    simp only [bnd2]
    rw [os, o5]
    simp only [bnd1_some']
    rw [m3]
    simp only [o4, bnd1_some']
    rw [m4]
    simp only
    have ex : iL (DD g n (2 ^ n - 1)) * (vc g l ax).toInt64 - iL (Yx (NN g n (2 ^ n - 1) ax) (g l 5)) + iL (Yx (NN g n (2 ^ n - 1) ax) (g l 4)) = iL (rsd g (DD g n (2 ^ n - 1)) (NN g n (2 ^ n - 1)) l ax) := by
      rw [vc_L, iL_mul, iL_sub, iL_add]
      congr 1
      unfold rsd dl dY
      rw [Int.mul_comm (vI g ax l)]
      omega
    rw [ex, d1, e_lowest y3 (by omega) hrb d2 (by omega), e_layF (by omega) (by omega) d2 (by omega)]
    simp only [bnd1_some', e_told]
    exact ⟨_, _, _, _, _, _, _, _, _, _, _, rfl, rfl⟩
