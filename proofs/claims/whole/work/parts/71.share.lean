/-! ===== shares ===== -/
def i3 (x : Int) : Int32 := Int32.ofInt x
theorem i3_add (a b : Int) : i3 a + i3 b = i3 (a + b) := (Int32.ofInt_add a b).symm
theorem i3_sub (a b : Int) : i3 a - i3 b = i3 (a - b) := (Int32.ofInt_sub a b).symm
theorem i3_mul (a b : Int) : i3 a * i3 b = i3 (a * b) := (Int32.ofInt_mul a b).symm
theorem i3_int {a : Int} (h : a.natAbs < 2 ^ 31) : (i3 a).toInt = a := Int32.toInt_ofInt_of_le (by omega) (by omega)
theorem i3_nI {a : Nat} (h : a < 2 ^ 31) : nI a = i3 a := by rw [fa_eq, nI_toInt h, i3_int (by omega)]
theorem i3_L {a : Int} (h : a.natAbs < 2 ^ 31) : (i3 a).toInt64 = iL a := by
  show Int64.ofInt (i3 a).toInt = Int64.ofInt a
  rw [i3_int h]
def fct : Nat → Nat
  | 0 => 1
  | k + 1 => (k + 1) * fct k
theorem e_fct5' : ∀ k, k < 9 → f_X5_factorial 1000 (nI k) = some (nI (fct k)) := by decide +kernel
theorem e_fct6' : ∀ k, k < 9 → f_X6_factorial 1000 (nI k) = some (nI (fct k)) := by decide +kernel
theorem e_fct5 {F k : Nat} (hF : F = 1000) (h : k < 9) : f_X5_factorial F (nI k) = some (nI (fct k)) := by rw [hF]; exact e_fct5' k h
theorem e_fct6 {F k : Nat} (hF : F = 1000) (h : k < 9) : f_X6_factorial F (nI k) = some (nI (fct k)) := by rw [hF]; exact e_fct6' k h
theorem fct_bd : ∀ m, m < 8 → ∀ k, k < 8 → k ≤ m → fct k * fct (m - k) ≤ 5040 := by decide +kernel
theorem fct_9 : ∀ k, k < 9 → 0 < fct k ∧ fct k ≤ 40320 := by decide +kernel
theorem popc_cnt : ∀ x, x < 256 → popc x = cnt (fun i => x.testBit i) 8 := by decide +kernel
theorem popc_one : ∀ x, x < 256 → ∀ l, l < 8 → x.testBit l = true → popc (ldiff x (2 ^ l)) + 1 = popc x := by decide +kernel
theorem popc_8 {x : Nat} : popc x ≤ 8 := by unfold popc; omega
theorem cnt_sub {P Q : Nat → Bool} : ∀ {n : Nat}, (∀ i, i < n → P i = true → Q i = true) → cnt P n ≤ cnt Q n
  | 0, _ => Nat.le_refl 0
  | n + 1, h => by
    have h1 := cnt_sub (P := P) (Q := Q) (n := n) (fun i hi => h i (by omega))
    have h2 := h n (by omega)
    show cnt P n + (if P n = true then 1 else 0) ≤ cnt Q n + (if Q n = true then 1 else 0)
    by_cases c : P n = true
    · rw [if_pos c, if_pos (h2 c)]; omega
    · rw [if_neg c]; omega
theorem sub_bit {s O : Nat} (h : ldiff s O = 0) (i : Nat) (hi : s.testBit i = true) : O.testBit i = true := by
  have e := ldiff_bit s O i
  rw [h, Nat.zero_testBit, hi] at e
  cases c : O.testBit i with
  | true => rfl
  | false => rw [c] at e; cases e
theorem sub_of {s O : Nat} (h : ∀ i, s.testBit i = true → O.testBit i = true) : ldiff s O = 0 := by
  apply Nat.eq_of_testBit_eq
  intro i
  rw [ldiff_bit, Nat.zero_testBit]
  cases c : s.testBit i with
  | true => rw [h i c]; rfl
  | false => rfl
theorem sub_le {s O : Nat} (h : ldiff s O = 0) : s ≤ O := Nat.le_of_testBit (fun i hi => sub_bit h i hi)
theorem popc_sub {s O : Nat} (h : ldiff s O = 0) (hO : O < 256) : popc s ≤ popc O := by
  have h1 := sub_le h
  rw [popc_cnt s (by omega), popc_cnt O hO]
  exact cnt_sub (fun i _ hi => sub_bit h i hi)
def gnI (g : Nat → Nat → Nat) (n l s : Nat) : Int := (popc (con g n (s ||| 2 ^ l)) : Int) - (popc (con g n s) : Int)
def trm (g : Nat → Nat → Nat) (n O l s : Nat) : Int := if ldiff s O = 0 then gnI g n l s * ((fct (popc s) * fct (popc O - popc s) : Nat) : Int) else 0
theorem ld_nI {s O : Nat} (hs : s < 2 ^ 31) : (nI s &&& (nI O ^^^ (-1 : Int32)) = (0 : Int32)) ↔ ldiff s O = 0 := by
  rw [not_nI hs]
  have := ldiff_le s O
  exact nI_eq (b := 0) (by omega) (by omega)
theorem con_popc {n : Nat} {g : Nat → Nat → Nat} (hw : LW n g) {S : Nat} (hS : S < 2 ^ n) : popc (con g n S) ≤ 6 := popc_6 (con_lt hw hS)
theorem or2_lt {n s l : Nat} (hs : s < 2 ^ n) (hl : l < n) : s ||| 2 ^ l < 2 ^ n := Nat.or_lt_two_pow hs (Nat.pow_lt_pow_right (by omega) hl)
theorem gn_bd {n : Nat} {g : Nat → Nat → Nat} (hw : LW n g) {s l : Nat} (hs : s < 2 ^ n) (hl : l < n) : (gnI g n l s).natAbs ≤ 6 := by
  have h1 := con_popc hw hs
  have h2 := con_popc hw (or2_lt hs hl)
  unfold gnI
  omega
theorem trm_bd {n : Nat} {g : Nat → Nat → Nat} (hw : LW n g) {O l s : Nat} (hO : O < 2 ^ n) (hp : popc O ≤ 7) (hl : l < n) : (trm g n O l s).natAbs ≤ 30240 := by
  have hn := hw.1
  have h256 := S_lt hn hO
  unfold trm
  by_cases c : ldiff s O = 0
  · rw [if_pos c]
    have h1 := sub_le c
    have h2 := popc_sub c h256
    have h3 := fct_bd (popc O) (by omega) (popc s) (by omega) h2
    exact ab_mul (a := 6) (b := 5040) (gn_bd hw (by omega) hl) (by omega)
  · rw [if_neg c]; exact Nat.zero_le _
theorem trs_bd {n : Nat} {g : Nat → Nat → Nat} (hw : LW n g) {O l : Nat} (hO : O < 2 ^ n) (hp : popc O ≤ 7) (hl : l < n) {m : Nat} (hm : m ≤ 257) : (sg (trm g n O l) m).natAbs ≤ 7771680 := by
  have h := sg_ab (f := trm g n O l) (B := fun _ => 30240) (n := m) (fun s _ => trm_bd hw hO hp hl)
  rw [sm_const] at h
  omega
theorem e_gain {n F : Nat} {g : Nat → Nat → Nat} {rows : Nat → Int32} (hF : 8 < F) (hg : WG n g) (hr : RR n g rows) {s l : Nat} (hs : s < 2 ^ n) (hl : l < n) : f_X5_gain F (nI s) (nI l) rows = some (i3 (gnI g n l s)) := by
  have hn := hg.1
  have h1 := con_lt hg.lw hs
  have h2 := con_lt hg.lw (or2_lt hs hl)
  have h3 := con_popc hg.lw hs
  have h4 := con_popc hg.lw (or2_lt hs hl)
  unfold f_X5_gain
  rw [e_spread1 hF hg hs hr, shl_nI (by omega), fa_or]
  simp only [bnd1_some']
  rw [e_spread1 hF hg (or2_lt hs hl) hr]
  simp only [bnd1_some']
  rw [show rch g (s ||| 2 ^ l) n 6 1 = con g n (s ||| 2 ^ l) from rfl, show rch g s n 6 1 = con g n s from rfl, e_bitc _ (by omega), e_bitc _ (by omega)]
  simp only [bnd1_some']
  rw [i3_nI (by omega), i3_nI (by omega), i3_sub]
  rfl
theorem sh5_in {n F : Nat} {g : Nat → Nat → Nat} {rows : Nat → Int32} (size x2 : Int32) (hF : F = 1000) (hg : WG n g) (hr : RR n g rows) {O l : Nat} (hO : O < 2 ^ n) (hp : popc O ≤ 7) (hl : l < n) : ∀ (k s fuel : Nat), k + s = 256 → k < fuel → f_X5_share_L56 F size rows fuel (nI l) x2 (nI O) (nI (popc O)) (i3 (sg (trm g n O l) s)) (nI s) = some (sd x2 (sg (trm g n O l) 256) (fct (popc O + 1))).toInt32 := by
  have hn := hg.1
  have h256 := S_lt hn hO
  intro k
  induction k with
  | zero =>
    intro s fuel hk hf
    have e : s = 256 := by omega
    subst e
    obtain ⟨f, rfl⟩ : ∃ f, fuel = f + 1 := ⟨fuel - 1, by omega⟩
    have hb := trs_bd hg.lw hO hp hl (m := 256) (by omega)
    have h9 := fct_9 (popc O + 1) (by omega)
    show f_X5_share_B56 F size rows _ _ _ _ _ _ _ = _
    unfold f_X5_share_B56
    rw [if_pos (show (256 : Int32) ≤ nI 256 from nI_le (Nat.le_refl 256) (by omega)), nI_1, e_fct5 hF (by omega)]
    simp only [bnd1_some']
    rw [i3_L (by omega), nI_l (by omega), e_lowest x2 (by omega) (by omega) h9.1 (by omega)]
    rfl
  | succ k ih =>
    intro s fuel hk hf
    obtain ⟨f, rfl⟩ : ∃ f, fuel = f + 1 := ⟨fuel - 1, by omega⟩
    have hi := ih (s + 1) f (by omega) (by omega)
    have es : sg (trm g n O l) (s + 1) = sg (trm g n O l) s + trm g n O l s := rfl
    have c : ¬ (256 : Int32) ≤ nI s := fun h => absurd ((nI_leI (a := 256) (by omega) (by omega)).mp h) (by omega)
    show f_X5_share_B56 F size rows (f_X5_share_L56 F size rows f) _ _ _ _ _ _ = _
    unfold f_X5_share_B56 f_X5_share_J107
    rw [if_neg c]
    simp only [ld_nI (show s < 2 ^ 31 by omega), nmd, nI_1]
    by_cases d : ldiff s O = 0
    · have h1 := sub_le d
      have h2 := popc_sub d h256
      have f1 := fct_9 (popc s) (by omega)
      have f2 := fct_9 (popc O - popc s) (by omega)
      rw [if_pos d, e_bitc s (by omega), e_gain (by omega) hg hr (by omega) hl]
      simp only [bnd1_some']
      rw [e_fct5 hF (by omega), pk_sub h2, e_fct5 hF (by omega)]
      simp only [bnd1_some']
      rw [i3_nI (show fct (popc s) < 2 ^ 31 by omega), i3_nI (show fct (popc O - popc s) < 2 ^ 31 by omega), i3_mul, i3_mul, i3_add]
      have e : sg (trm g n O l) s + gnI g n l s * ((fct (popc s) : Nat) : Int) * ((fct (popc O - popc s) : Nat) : Int) = sg (trm g n O l) (s + 1) := by
        rw [es]
        unfold trm
        rw [if_pos d, Int.natCast_mul, Int.mul_assoc]
      rw [e]
      exact hi
    · rw [if_neg d]
      have e : trm g n O l s = 0 := if_neg d
      rw [es, e, Int.add_zero] at hi
      exact hi
theorem others_sub {O l s : Nat} : ldiff s (ldiff O (2 ^ l)) = 0 ↔ (ldiff s O = 0 ∧ s.testBit l = false) := by
  constructor
  · intro h
    refine ⟨sub_of (fun i hi => ?_), ?_⟩
    · have := sub_bit h i hi
      rw [ldiff_bit] at this
      exact ((Bool.and_eq_true _ _).mp this).1
    · cases c : s.testBit l with
      | false => rfl
      | true =>
        have := sub_bit h l c
        rw [ldiff_bit, Nat.testBit_two_pow_self] at this
        simp at this
  · intro h
    refine sub_of (fun i hi => ?_)
    rw [ldiff_bit, sub_bit h.1 i hi, Nat.testBit_two_pow]
    by_cases c : l = i
    · rw [← c, h.2] at hi; cases hi
    · simp [c]
theorem sh6_in {n F : Nat} {g : Nat → Nat → Nat} {page : Nat → Int32} (th x2 : Int32) (up low : Int64) (hF : F = 1000) (hg : WG n g) (hP : PP n g page) {A l : Nat} (hA : A < 2 ^ n) (hb : A.testBit l = true) (hl : l < n) : ∀ (k s fuel : Nat), k + s = A + 1 → k < fuel → f_X6_share_L46 F page fuel th up low (nI l) x2 (nI A) (nI (popc A)) (iL (sg (trm g n (ldiff A (2 ^ l)) l) s)) (nI s) = some ((sd x2 (sg (trm g n (ldiff A (2 ^ l)) l) (A + 1)) (fct (popc A))).toInt32, th, sd 1 (sg (trm g n (ldiff A (2 ^ l)) l) (A + 1)) (fct (popc A)), sd 0 (sg (trm g n (ldiff A (2 ^ l)) l) (A + 1)) (fct (popc A))) := by
  have hn := hg.1
  have h256 := S_lt hn hA
  have hO : ldiff A (2 ^ l) < 2 ^ n := ldiff_lt hA
  have hO2 := S_lt hn hO
  have hpo := popc_one A h256 l (by omega) hb
  have hp8 := popc_8 (x := A)
  have hp : popc (ldiff A (2 ^ l)) ≤ 7 := by omega
  intro k
  induction k with
  | zero =>
    intro s fuel hk hf
    have e : s = A + 1 := by omega
    subst e
    obtain ⟨f, rfl⟩ : ∃ f, fuel = f + 1 := ⟨fuel - 1, by omega⟩
    have hbd := trs_bd hg.lw hO hp hl (m := A + 1) (by omega)
    have h9 := fct_9 (popc A) (by omega)
    show f_X6_share_B46 F page _ _ _ _ _ _ _ _ _ _ = _
    unfold f_X6_share_B46
    rw [if_pos (nI_lt (by omega) (by omega)), e_fct6 hF (by omega)]
    simp only [bnd1_some']
    rw [nI_l (by omega), e_layF (by omega) (by omega) h9.1 (by omega)]
    simp only [bnd2, e_told, bnd1_some']
  | succ k ih =>
    intro s fuel hk hf
    obtain ⟨f, rfl⟩ : ∃ f, fuel = f + 1 := ⟨fuel - 1, by omega⟩
    have hi := ih (s + 1) f (by omega) (by omega)
    have es : sg (trm g n (ldiff A (2 ^ l)) l) (s + 1) = sg (trm g n (ldiff A (2 ^ l)) l) s + trm g n (ldiff A (2 ^ l)) l s := rfl
    have c : ¬ nI A < nI s := fun h => absurd ((nI_ltI (by omega) (by omega)).mp h) (by omega)
    show f_X6_share_B46 F page (f_X6_share_L46 F page f) _ _ _ _ _ _ _ _ _ = _
    unfold f_X6_share_B46 f_X6_share_J136
    rw [if_neg c, e_has6 (by omega) (by omega)]
    simp only [ld_nI (show s < 2 ^ 31 by omega), bnd1_some', i01, nmd, nI_1]
    have no : ¬ ldiff s (ldiff A (2 ^ l)) = 0 → sg (trm g n (ldiff A (2 ^ l)) l) (s + 1) = sg (trm g n (ldiff A (2 ^ l)) l) s := fun d => by
      have e : trm g n (ldiff A (2 ^ l)) l s = 0 := if_neg d
      rw [es, e, Int.add_zero]
    by_cases d : ldiff s A = 0
    · rw [if_pos d]
      by_cases d2 : s.testBit l = false
      · have d3 : ldiff s (ldiff A (2 ^ l)) = 0 := others_sub.mpr ⟨d, d2⟩
        have h1 := sub_le d
        have h2 := popc_sub d3 hO2
        have hs : s < 2 ^ n := by omega
        have hs2 := or2_lt hs hl
        have k1 := con_lt hg.lw hs
        have k2 := con_lt hg.lw hs2
        have k3 := con_popc hg.lw hs
        have k4 := con_popc hg.lw hs2
        have gb := gn_bd hg.lw hs hl
        have f1 := fct_9 (popc s) (by omega)
        have f2 := fct_9 (popc (ldiff A (2 ^ l)) - popc s) (by omega)
        rw [if_pos d2, shl_nI (by omega), fa_or, e_tied (by omega) hg hs2 hP, e_tied (by omega) hg hs hP]
        simp only [bnd1_some']
        rw [show rch g (s ||| 2 ^ l) n 6 1 = con g n (s ||| 2 ^ l) from rfl, show rch g s n 6 1 = con g n s from rfl, e_ones hF (show con g n (s ||| 2 ^ l) < 256 by omega), e_ones hF (show con g n s < 256 by omega), e_ones hF (show s < 256 by omega)]
        simp only [bnd1_some']
        have e1 : nI (popc A) - (1 : Int32) - nI (popc s) = nI (popc (ldiff A (2 ^ l)) - popc s) := by
          rw [← hpo, nI_s1, pk_sub h2]
        rw [e1, e_fct6 hF (by omega), e_fct6 hF (by omega)]
        simp only [bnd1_some']
        have e2 : (nI (popc (con g n (s ||| 2 ^ l))) - nI (popc (con g n s))).toInt64 = iL (gnI g n l s) := by
          rw [i3_nI (show popc (con g n (s ||| 2 ^ l)) < 2 ^ 31 by omega), i3_nI (show popc (con g n s) < 2 ^ 31 by omega), i3_sub]
          exact i3_L (a := gnI g n l s) (by omega)
        rw [e2, nI_l (by omega), nI_l (by omega), lN_mul, lN_iL (show fct (popc s) * fct (popc (ldiff A (2 ^ l)) - popc s) < 2 ^ 63 by have := Nat.mul_le_mul f1.2 f2.2; omega), iL_mul, iL_add]
        have e : sg (trm g n (ldiff A (2 ^ l)) l) s + ((fct (popc s) * fct (popc (ldiff A (2 ^ l)) - popc s) : Nat) : Int) * gnI g n l s = sg (trm g n (ldiff A (2 ^ l)) l) (s + 1) := by
          rw [es]
          unfold trm
          rw [if_pos d3, Int.mul_comm]
        rw [e]
        exact hi
      · rw [if_neg d2]
        rw [no (fun q => d2 (others_sub.mp q).2)] at hi
        exact hi
    · rw [if_neg d]
      rw [no (fun q => d (others_sub.mp q).1)] at hi
      exact hi
theorem core_share {N n F : Nat} {g : Nat → Nat → Nat} {size st stations : Int32} {rows page : Nat → Int32} (hF : F = 1000) (h : CV N n g size st rows stations page) (y1 y2 th : Int32) (up low : Int64) : ∃ r up' low', f_X5_share F y1 y2 size rows = some r ∧ f_X6_share F y1 y2 th up low page = some (r, 0, up', low') := by
  obtain ⟨hw, ⟨rfl, rfl, hr⟩, hp, rfl⟩ := h
  have hg := hw.wg
  have hn := hw.1
  have hp2 : 2 ^ n ≤ 256 := p2_256 hg.1
  have hO := opn_lt g 0 n
  have h256 := S_lt hn hO
  unfold f_X5_share f_X6_share
  rw [e_has y1 hn, e_noLeg y1 hn hp.1, e_openOnes hg hp, show f_X0_open F (1 : Int32) (nI n) rows = some (nI (opn g 1 n)) from e_open (w := 1) (by omega) hg hr (by omega), opn01 hg]
  simp only [bnd1_some', nmd]
  rw [e_ones hF h256]
  simp only [bnd1_some']
  rcases st_cases y1 hn with h1 | ⟨l, hl, rfl⟩
  · exact ⟨-1, up, low, by rw [if_neg h1, if_pos rfl], by rw [if_neg h1, if_neg (by decide)]⟩
  have hin := in_a hl hn
  have h2 := hg.2 l hl
  rw [if_pos hin, if_neg (by decide), if_pos hin, if_pos rfl, show f_X0_get (nI l) (6 : Int32) rows = some (nI (g l 6)) from g_row (j := 6) hr hn hl (by omega), e_has6 (by omega) (by omega)]
  simp only [bnd1_some', i01]
  by_cases c : g l 6 = 0
  · have hb : (opn g 0 n).testBit l = true := by
      rw [opn_bit]
      exact decide_eq_true ⟨hl, c, Nat.zero_le _⟩
    have hpo := popc_one _ h256 l (by omega) hb
    have hp8 := popc_8 (x := opn g 0 n)
    have hO' : ldiff (opn g 0 n) (2 ^ l) < 2 ^ n := ldiff_lt hO
    have a1 := sh5_in (F := F) (nI n) y2 hF hg hr hO' (by omega) hl 256 0 F (by omega) (by omega)
    have a2 := sh6_in (F := F) 0 y2 up low hF hg hp hO hb hl (opn g 0 n + 1) 0 F (by omega) (by omega)
    have e : sg (trm g n (ldiff (opn g 0 n) (2 ^ l)) l) 256 = sg (trm g n (ldiff (opn g 0 n) (2 ^ l)) l) (opn g 0 n + 1) := sg_trunc (by omega) (fun i h3 _ => if_neg (fun q => by
      have q1 := sub_le q
      have q2 := ldiff_le (opn g 0 n) (2 ^ l)
      omega))
    rw [e, hpo] at a1
    refine ⟨(sd y2 (sg (trm g n (ldiff (opn g 0 n) (2 ^ l)) l) (opn g 0 n + 1)) (fct (popc (opn g 0 n)))).toInt32, sd 1 (sg (trm g n (ldiff (opn g 0 n) (2 ^ l)) l) (opn g 0 n + 1)) (fct (popc (opn g 0 n))), sd 0 (sg (trm g n (ldiff (opn g 0 n) (2 ^ l)) l) (opn g 0 n + 1)) (fct (popc (opn g 0 n))), ?_, ?_⟩
    rotate_left 1
    · rw [hb, if_neg (by decide)]
      exact a2
    · rw [c, if_pos (show nI 0 = (0 : Int32) from rfl), shl_nI (by omega), not_nI (by omega), e_bitc _ (S_lt hn hO')]
      exact a1
  · have hb : (opn g 0 n).testBit l = false := by
      rw [opn_bit]
      exact decide_eq_false (fun q => c q.2.1)
    exact ⟨-3, up, low, by rw [if_neg (show ¬ nI (g l 6) = (0 : Int32) from fun q => c ((nI_eq (b := 0) (by omega) (by omega)).mp q))], by rw [hb, if_pos rfl]⟩
