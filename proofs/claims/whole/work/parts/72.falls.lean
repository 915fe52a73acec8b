/-! ===== falls: sums over sets of legs ===== -/
theorem sm_mul {f h : Nat → Nat} {c : Nat} : ∀ {n : Nat}, (∀ k, k < n → f k = c * h k) → fb_sm f n = c * fb_sm h n
  | 0, _ => rfl
  | n + 1, e => by
    rw [fb_sm_succ, fb_sm_succ, sm_mul (fun k hk => e k (by omega)), e n (by omega), Nat.mul_add]
theorem sm_0 {f : Nat → Nat} : ∀ {n : Nat}, (∀ k, k < n → f k = 0) → fb_sm f n = 0
  | 0, _ => rfl
  | n + 1, e => by rw [fb_sm_succ, sm_0 (fun k hk => e k (by omega)), e n (by omega)]
theorem sm_trunc {f : Nat → Nat} {k : Nat} : ∀ {n : Nat}, k ≤ n → (∀ i, k ≤ i → i < n → f i = 0) → fb_sm f n = fb_sm f k
  | 0, h, _ => by
    have : k = 0 := by omega
    rw [this]
  | n + 1, h, e => by
    by_cases c : k = n + 1
    · rw [c]
    · rw [fb_sm_succ, sm_trunc (k := k) (by omega) (fun i h1 h2 => e i h1 (by omega)), e n (by omega) (by omega), Nat.add_zero]
def bt (s : Nat) : Nat → Bool := fun i => s.testBit i
/-- the weight of a set of legs among T, of the first n -/
def tw (x T n : Nat) (f : Nat → Nat) (s : Nat) : Nat := if ldiff s T = 0 then (10 - x) ^ (cnt (bt s) n) * x ^ (cnt (bt T) n - cnt (bt s) n) * f s else 0
def EE (x T : Nat) : Nat → (Nat → Nat) → Nat
  | 0, f => f 0
  | n + 1, f => if T.testBit n = true then x * EE x T n f + (10 - x) * EE x T n (fun s => f (2 ^ n + s)) else EE x T n f
theorem bt_lo {n s : Nat} (h : s < 2 ^ n) : bt s n = false := Nat.testBit_lt_two_pow h
theorem bt_hi {n s i : Nat} (h : s < 2 ^ n) : bt (2 ^ n + s) i = (decide (i = n) || bt s i) := by
  unfold bt
  by_cases c : i = n
  · subst c
    rw [Nat.testBit_two_pow_add_eq, Nat.testBit_lt_two_pow h]
    simp
  · rcases Nat.lt_or_gt_of_ne c with d | d
    · rw [Nat.testBit_two_pow_add_gt d]; simp [c]
    · have e1 : (2 ^ n + s).testBit i = false := Nat.testBit_lt_two_pow (by
        have := Nat.pow_le_pow_right (n := 2) (by omega) (show n + 1 ≤ i by omega)
        rw [Nat.pow_succ] at this
        omega)
      have e2 : s.testBit i = false := Nat.testBit_lt_two_pow (by
        have := Nat.pow_le_pow_right (n := 2) (by omega) (show n ≤ i by omega)
        omega)
      rw [e1, e2]; simp [c]
theorem ld_hi {n s T : Nat} (h : s < 2 ^ n) : ldiff (2 ^ n + s) T = 0 ↔ (T.testBit n = true ∧ ldiff s T = 0) := by
  constructor
  · intro q
    refine ⟨sub_bit q n (by show bt (2 ^ n + s) n = true; rw [bt_hi h]; simp), sub_of (fun i hi => sub_bit q i ?_)⟩
    show bt (2 ^ n + s) i = true
    rw [bt_hi h]
    have : bt s i = true := hi
    rw [this, Bool.or_true]
  · intro q
    refine sub_of (fun i hi => ?_)
    have hi2 : bt (2 ^ n + s) i = true := hi
    rw [bt_hi h] at hi2
    by_cases c : i = n
    · rw [c]; exact q.1
    · have : bt s i = true := by simpa [c] using hi2
      exact sub_bit q.2 i this
theorem cnt_hi {n s : Nat} (h : s < 2 ^ n) : cnt (bt (2 ^ n + s)) (n + 1) = cnt (bt s) n + 1 := by
  have e : cnt (bt (2 ^ n + s)) n = cnt (bt s) n := cnt_cong (fun i hi => by rw [bt_hi h]; simp [Nat.ne_of_lt hi])
  rw [cnt_s (by rw [bt_hi h]; simp), e]
theorem tw_sum (x T : Nat) : ∀ (n : Nat) (f : Nat → Nat), fb_sm (tw x T n f) (2 ^ n) = EE x T n f
  | 0, f => by
    show 0 + tw x T 0 f 0 = f 0
    unfold tw
    have : ldiff 0 T = 0 := by unfold ldiff; simp
    rw [if_pos this]
    show 0 + (10 - x) ^ 0 * x ^ (0 - 0) * f 0 = f 0
    simp
  | n + 1, f => by
    rw [show 2 ^ (n + 1) = 2 ^ n + 2 ^ n by rw [Nat.pow_succ]; omega, fb_sm_split]
    have i1 := tw_sum x T n f
    have i2 := tw_sum x T n (fun s => f (2 ^ n + s))
    cases hT : T.testBit n with
    | true =>
      have cT : cnt (bt T) (n + 1) = cnt (bt T) n + 1 := cnt_s hT
      have e1 : fb_sm (tw x T (n + 1) f) (2 ^ n) = x * fb_sm (tw x T n f) (2 ^ n) := sm_mul (fun s hs => by
        unfold tw
        by_cases c : ldiff s T = 0
        · have hle : cnt (bt s) n ≤ cnt (bt T) n := cnt_sub (fun i _ hi => sub_bit c i hi)
          rw [if_pos c, if_pos c, cT, cnt_n (bt_lo hs), show cnt (bt T) n + 1 - cnt (bt s) n = (cnt (bt T) n - cnt (bt s) n) + 1 by omega, Nat.pow_succ]
          generalize (10 - x) ^ cnt (bt s) n = a
          generalize x ^ (cnt (bt T) n - cnt (bt s) n) = b
          grind
        · rw [if_neg c, if_neg c, Nat.mul_zero])
      have e2 : fb_sm (fun k => tw x T (n + 1) f (2 ^ n + k)) (2 ^ n) = (10 - x) * fb_sm (tw x T n (fun s => f (2 ^ n + s))) (2 ^ n) := sm_mul (fun s hs => by
        unfold tw
        by_cases c : ldiff s T = 0
        · rw [if_pos ((ld_hi hs).mpr ⟨hT, c⟩), if_pos c, cT, cnt_hi hs, Nat.add_sub_add_right, Nat.pow_succ]
          generalize (10 - x) ^ cnt (bt s) n = a
          generalize x ^ (cnt (bt T) n - cnt (bt s) n) = b
          grind
        · rw [if_neg (fun q => c ((ld_hi hs).mp q).2), if_neg c, Nat.mul_zero])
      rw [e1, e2, i1, i2]
      show _ = if T.testBit n = true then x * EE x T n f + (10 - x) * EE x T n (fun s => f (2 ^ n + s)) else EE x T n f
      rw [if_pos hT]
    | false =>
      have e1 : fb_sm (tw x T (n + 1) f) (2 ^ n) = fb_sm (tw x T n f) (2 ^ n) := fb_sm_cong (fun s hs => by
        unfold tw
        rw [cnt_n (P := bt T) hT, cnt_n (bt_lo hs)])
      have e2 : fb_sm (fun k => tw x T (n + 1) f (2 ^ n + k)) (2 ^ n) = 0 := sm_0 (fun s hs => if_neg (fun q => by
        have := ((ld_hi hs).mp q).1
        rw [hT] at this; cases this))
      rw [e1, e2, i1, Nat.add_zero]
      show _ = if T.testBit n = true then x * EE x T n f + (10 - x) * EE x T n (fun s => f (2 ^ n + s)) else EE x T n f
      rw [hT, if_neg (by decide)]
theorem EE_le (x T : Nat) (hx : x ≤ 10) : ∀ (n : Nat) (f : Nat → Nat), (∀ s, f s ≤ 1) → EE x T n f ≤ 10 ^ (cnt (bt T) n)
  | 0, f, h => h 0
  | n + 1, f, h => by
    have i1 := EE_le x T hx n f h
    have i2 := EE_le x T hx n (fun s => f (2 ^ n + s)) (fun s => h _)
    show (if T.testBit n = true then x * EE x T n f + (10 - x) * EE x T n (fun s => f (2 ^ n + s)) else EE x T n f) ≤ _
    cases hT : T.testBit n with
    | true =>
      rw [if_pos rfl, cnt_s (P := bt T) hT, Nat.pow_succ]
      have j1 := Nat.mul_le_mul_left x i1
      have j2 := Nat.mul_le_mul_left (10 - x) i2
      have j3 : x * 10 ^ cnt (bt T) n + (10 - x) * 10 ^ cnt (bt T) n = 10 ^ cnt (bt T) n * 10 := by
        rw [← Nat.add_mul, show x + (10 - x) = 10 by omega, Nat.mul_comm]
      omega
    | false =>
      rw [if_neg (by decide), cnt_n (P := bt T) hT]
      exact i1
/-- what looks at Q's legs alone -/
theorem EE_Q (x O Q : Nat) (hx : x ≤ 10) (hQ : ldiff Q O = 0) : ∀ (n : Nat) (f h : Nat → Nat), (∀ s, s < 2 ^ n → ldiff s O = 0 → f s = h (s &&& Q)) → EE x O n f * 10 ^ (cnt (bt Q) n) = EE x Q n h * 10 ^ (cnt (bt O) n)
  | 0, f, h, e => by
    have : f 0 = h 0 := by
      have := e 0 (by omega) (by unfold ldiff; simp)
      rw [Nat.zero_and] at this
      exact this
    show f 0 * 10 ^ 0 = h 0 * 10 ^ 0
    rw [this]
  | n + 1, f, h, e => by
    have i1 := EE_Q x O Q hx hQ n f h (fun s hs ho => e s (by rw [Nat.pow_succ]; omega) ho)
    show (if O.testBit n = true then x * EE x O n f + (10 - x) * EE x O n (fun s => f (2 ^ n + s)) else EE x O n f) * 10 ^ (cnt (bt Q) (n + 1)) = (if Q.testBit n = true then x * EE x Q n h + (10 - x) * EE x Q n (fun s => h (2 ^ n + s)) else EE x Q n h) * 10 ^ (cnt (bt O) (n + 1))
    cases hO : O.testBit n with
    | false =>
      have hq : Q.testBit n = false := by
        cases c : Q.testBit n with
        | false => rfl
        | true => rw [sub_bit hQ n c] at hO; cases hO
      rw [if_neg (by decide), hq, if_neg (by decide), cnt_n (P := bt O) hO, cnt_n (P := bt Q) hq]
      exact i1
    | true =>
      have eand : ∀ s, s < 2 ^ n → (2 ^ n + s) &&& Q = if Q.testBit n = true then 2 ^ n + (s &&& Q) else s &&& Q := fun s hs => by
        have hsq : s &&& Q < 2 ^ n := Nat.lt_of_le_of_lt Nat.and_le_left hs
        apply Nat.eq_of_testBit_eq
        intro i
        have b1 : (2 ^ n + s).testBit i = (decide (i = n) || s.testBit i) := bt_hi hs
        rw [Nat.testBit_and, b1]
        by_cases c : Q.testBit n = true
        · rw [if_pos c]
          have b2 : (2 ^ n + (s &&& Q)).testBit i = (decide (i = n) || (s &&& Q).testBit i) := bt_hi hsq
          rw [b2, Nat.testBit_and]
          by_cases d : i = n
          · subst d; simp [c]
          · simp [d]
        · rw [if_neg c, Nat.testBit_and]
          by_cases d : i = n
          · subst d
            have : Q.testBit i = false := by simpa using c
            rw [this]; simp
          · simp [d]
      have hi : ∀ s, s < 2 ^ n → ldiff s O = 0 → f (2 ^ n + s) = h (if Q.testBit n = true then 2 ^ n + (s &&& Q) else s &&& Q) := fun s hs ho => by
        rw [e (2 ^ n + s) (by rw [Nat.pow_succ]; omega) ((ld_hi hs).mpr ⟨hO, ho⟩), eand s hs]
      rw [if_pos rfl, cnt_s (P := bt O) hO]
      cases hq : Q.testBit n with
      | true =>
        have i2 := EE_Q x O Q hx hQ n (fun s => f (2 ^ n + s)) (fun s => h (2 ^ n + s)) (fun s hs ho => by rw [hi s hs ho, hq, if_pos rfl])
        rw [if_pos rfl, cnt_s (P := bt Q) hq, Nat.pow_succ, Nat.pow_succ]
        generalize EE x O n f = a at *
        generalize EE x O n (fun s => f (2 ^ n + s)) = b at *
        generalize EE x Q n h = c at *
        generalize EE x Q n (fun s => h (2 ^ n + s)) = d at *
        generalize 10 ^ cnt (bt O) n = p at *
        generalize 10 ^ cnt (bt Q) n = q at *
        have e1 : (x * a + (10 - x) * b) * (q * 10) = (x * (a * q) + (10 - x) * (b * q)) * 10 := by grind
        have e2 : (x * c + (10 - x) * d) * (p * 10) = (x * (c * p) + (10 - x) * (d * p)) * 10 := by grind
        rw [e1, e2, i1, i2]
      | false =>
        have i2 := EE_Q x O Q hx hQ n (fun s => f (2 ^ n + s)) h (fun s hs ho => by rw [hi s hs ho, hq, if_neg (by decide)])
        rw [if_neg (by decide), cnt_n (P := bt Q) hq, Nat.pow_succ]
        generalize EE x O n f = a at *
        generalize EE x O n (fun s => f (2 ^ n + s)) = b at *
        generalize EE x Q n h = c at *
        generalize 10 ^ cnt (bt O) n = p at *
        generalize 10 ^ cnt (bt Q) n = q at *
        have e1 : (x * a + (10 - x) * b) * q = x * (a * q) + (10 - x) * (b * q) := by grind
        have e2 : x * (c * p) + (10 - x) * (c * p) = c * (p * 10) := by
          rw [← Nat.add_mul, show x + (10 - x) = 10 by omega]; grind
        rw [e1, i1, i2, e2]
def tf (g : Nat → Nat → Nat) (n a s : Nat) : Nat := if (con g n s).testBit a = true then 1 else 0
theorem e_pow5' : ∀ b, b < 11 → ∀ k, k < 9 → f_X5_power 1000 (nI b) (nI k) = some (nI (b ^ k)) := by decide +kernel
theorem e_pow6' : ∀ b, b < 11 → ∀ k, k < 9 → f_X6_power 1000 (nI b) (nI k) = some (nI (b ^ k)) := by decide +kernel
theorem e_pow5 {F b k : Nat} (hF : F = 1000) (hb : b < 11) (hk : k < 9) : f_X5_power F (nI b) (nI k) = some (nI (b ^ k)) := by rw [hF]; exact e_pow5' b hb k hk
theorem e_pow6 {F b k : Nat} (hF : F = 1000) (hb : b < 11) (hk : k < 9) : f_X6_power F (nI b) (nI k) = some (nI (b ^ k)) := by rw [hF]; exact e_pow6' b hb k hk
theorem pow_8 : ∀ x, x < 11 → ∀ j, j < 9 → ∀ k, k < 9 → j + k ≤ 8 → (10 - x) ^ j * x ^ k ≤ 100000000 := by decide +kernel
theorem ten_8 : ∀ j, j < 9 → 0 < 10 ^ j ∧ 10 ^ j ≤ 100000000 := by decide +kernel
theorem popc_bt {x : Nat} (h : x < 256) : popc x = cnt (bt x) 8 := popc_cnt x h
def f5 (g : Nat → Nat → Nat) (n a x Q : Nat) : Nat → Nat := tw x Q 8 (tf g n a)
theorem f5_sum (g : Nat → Nat → Nat) (n a x Q : Nat) : fb_sm (f5 g n a x Q) 256 = EE x Q 8 (tf g n a) := tw_sum x Q 8 (tf g n a)
theorem tf_1 (g : Nat → Nat → Nat) (n a s : Nat) : tf g n a s ≤ 1 := by unfold tf; split <;> omega
theorem EE_8 {x Q : Nat} (hx : x ≤ 10) {f : Nat → Nat} (hf : ∀ s, f s ≤ 1) : EE x Q 8 f ≤ 100000000 := Nat.le_trans (EE_le x Q hx 8 f hf) (ten_8 _ (by have := cnt_le (bt Q) 8; omega)).2
theorem fl5_in {n F : Nat} {g : Nat → Nat → Nat} {rows : Nat → Int32} (size st x4 : Int32) (hF : F = 1000) (hg : WG n g) (hr : RR n g rows) {Q a x : Nat} (hQ : Q < 2 ^ n) (ha : a < 6) (hx : x ≤ 10) : ∀ (k s fuel : Nat), k + s = 256 → k < fuel → f_X5_falls_L56 F size st rows fuel (nI a) (nI x) x4 (nI Q) (nI (popc Q)) (nI (fb_sm (f5 g n a x Q) s)) (nI s) = some (sd x4 ((EE x Q 8 (tf g n a) : Nat) : Int) (10 ^ popc Q)).toInt32 := by
  have hn := hg.1
  have h256 := S_lt hn hQ
  have hp8 := popc_8 (x := Q)
  intro k
  induction k with
  | zero =>
    intro s fuel hk hf
    have e : s = 256 := by omega
    subst e
    obtain ⟨f, rfl⟩ : ∃ f, fuel = f + 1 := ⟨fuel - 1, by omega⟩
    have hb := EE_8 (Q := Q) hx (tf_1 g n a)
    have h9 := ten_8 (popc Q) (by omega)
    show f_X5_falls_B56 F size st rows _ _ _ _ _ _ _ _ = _
    unfold f_X5_falls_B56
    rw [if_pos (show (256 : Int32) ≤ nI 256 from nI_le (Nat.le_refl 256) (by omega)), f5_sum, show f_X5_power F (10 : Int32) (nI (popc Q)) = some (nI (10 ^ popc Q)) from e_pow5 (b := 10) hF (by omega) (by omega)]
    simp only [bnd1_some']
    rw [nI_l (by omega), nI_l (by omega), lN_iL (show EE x Q 8 (tf g n a) < 2 ^ 63 by omega), e_lowest x4 (by omega) (by omega) h9.1 (by omega)]
    rfl
  | succ k ih =>
    intro s fuel hk hf
    obtain ⟨f, rfl⟩ : ∃ f, fuel = f + 1 := ⟨fuel - 1, by omega⟩
    have hi := ih (s + 1) f (by omega) (by omega)
    rw [fb_sm_succ] at hi
    have c : ¬ (256 : Int32) ≤ nI s := fun h => absurd ((nI_leI (a := 256) (by omega) (by omega)).mp h) (by omega)
    show f_X5_falls_B56 F size st rows (f_X5_falls_L56 F size st rows f) _ _ _ _ _ _ _ = _
    unfold f_X5_falls_B56 f_X5_falls_J122
    rw [if_neg c]
    simp only [ld_nI (show s < 2 ^ 31 by omega), nmd, nI_1]
    by_cases d : ldiff s Q = 0
    · have h1 := sub_le d
      have h2 := popc_sub d h256
      have hs : s < 2 ^ n := by omega
      have k1 := con_lt hg.lw hs
      rw [if_pos d, e_spread1 (by omega) hg hs hr]
      simp only [bnd1_some']
      rw [show rch g s n 6 1 = con g n s from rfl, e_holds (by omega) (by omega)]
      simp only [bnd1_some', i01]
      cases hb : (con g n s).testBit a with
      | false =>
        have e : f5 g n a x Q s = 0 := by
          unfold f5 tw tf
          rw [if_pos d, hb, if_neg (by decide), Nat.mul_zero]
        rw [e, Nat.add_zero] at hi
        rw [if_pos rfl]
        exact hi
      | true =>
        have e : f5 g n a x Q s = (10 - x) ^ popc s * x ^ (popc Q - popc s) := by
          unfold f5 tw tf
          rw [if_pos d, hb, if_pos rfl, Nat.mul_one, popc_bt (show s < 256 by omega), popc_bt h256]
        rw [if_neg (by decide), e_bitc s (by omega)]
        simp only [bnd1_some']
        rw [show (10 : Int32) - nI x = nI (10 - x) from pk_sub (a := 10) hx, e_pow5 hF (by omega) (by omega), pk_sub h2, e_pow5 hF (by omega) (by omega)]
        simp only [bnd1_some']
        rw [pk_mul, nI_add, ← e]
        exact hi
    · rw [if_neg d]
      have e : f5 g n a x Q s = 0 := if_neg d
      rw [e, Nat.add_zero] at hi
      exact hi
def tg (g : Nat → Nat → Nat) (n w a s : Nat) : Nat := if (con g n (wid g s w n)).testBit a = true then 1 else 0
def f6 (g : Nat → Nat → Nat) (n w a x O : Nat) : Nat → Nat := tw x O 8 (tg g n w a)
theorem tg_1 (g : Nat → Nat → Nat) (n w a s : Nat) : tg g n w a s ≤ 1 := by unfold tg; split <;> omega
theorem f6_sum (g : Nat → Nat → Nat) (n w a x : Nat) {O : Nat} (hO : O < 256) : fb_sm (f6 g n w a x O) (O + 1) = EE x O 8 (tg g n w a) := by
  rw [← tw_sum x O 8 (tg g n w a)]
  exact (sm_trunc (n := 256) (by omega) (fun i h1 _ => if_neg (fun q => by have := sub_le q; omega))).symm
theorem fl6_in {n F : Nat} {g : Nat → Nat → Nat} {page : Nat → Int32} (th st x4 : Int32) (up low : Int64) (hF : F = 1000) (hg : WG n g) (hP : PP n g page) {O a x w : Nat} (hO : O < 2 ^ n) (ha : a < 6) (hx : x ≤ 10) (hw : w < 100) : ∀ (k s fuel : Nat), k + s = O + 1 → k < fuel → f_X6_falls_L64 F st page fuel th up low (nI a) (nI w) (nI x) x4 (nI O) (nI (popc O)) (lN (fb_sm (f6 g n w a x O) s)) (nI s) = some ((sd x4 ((EE x O 8 (tg g n w a) : Nat) : Int) (10 ^ popc O)).toInt32, th, sd 1 ((EE x O 8 (tg g n w a) : Nat) : Int) (10 ^ popc O), sd 0 ((EE x O 8 (tg g n w a) : Nat) : Int) (10 ^ popc O)) := by
  have hn := hg.1
  have h256 := S_lt hn hO
  have hp8 := popc_8 (x := O)
  intro k
  induction k with
  | zero =>
    intro s fuel hk hf
    have e : s = O + 1 := by omega
    subst e
    obtain ⟨f, rfl⟩ : ∃ f, fuel = f + 1 := ⟨fuel - 1, by omega⟩
    have hb := EE_8 (Q := O) hx (tg_1 g n w a)
    have h9 := ten_8 (popc O) (by omega)
    show f_X6_falls_B64 F st page _ _ _ _ _ _ _ _ _ _ _ _ = _
    unfold f_X6_falls_B64
    rw [if_pos (nI_lt (by omega) (by omega)), f6_sum _ _ _ _ _ h256, show f_X6_power F (10 : Int32) (nI (popc O)) = some (nI (10 ^ popc O)) from e_pow6 (b := 10) hF (by omega) (by omega)]
    simp only [bnd1_some']
    rw [nI_l (by omega), lN_iL (show EE x O 8 (tg g n w a) < 2 ^ 63 by omega), e_layF (by omega) (by omega) h9.1 (by omega)]
    simp only [bnd2, e_told, bnd1_some']
  | succ k ih =>
    intro s fuel hk hf
    obtain ⟨f, rfl⟩ : ∃ f, fuel = f + 1 := ⟨fuel - 1, by omega⟩
    have hi := ih (s + 1) f (by omega) (by omega)
    rw [fb_sm_succ] at hi
    have c : ¬ nI O < nI s := fun h => absurd ((nI_ltI (by omega) (by omega)).mp h) (by omega)
    show f_X6_falls_B64 F st page (f_X6_falls_L64 F st page f) _ _ _ _ _ _ _ _ _ _ _ = _
    unfold f_X6_falls_B64 f_X6_falls_J130
    rw [if_neg c]
    simp only [ld_nI (show s < 2 ^ 31 by omega), nmd, nI_1]
    by_cases d : ldiff s O = 0
    · have h1 := sub_le d
      have h2 := popc_sub d h256
      have hs : s < 2 ^ n := by omega
      have hwl : wid g s w n < 2 ^ n := wid_lt g s w n
      have k1 := con_lt hg.lw hwl
      rw [if_pos d, e_reached (by omega) hg.lw hs hw hg.w hP.1 hP.2.2]
      simp only [bnd1_some']
      rw [show rch g (wid g s w n) n 6 1 = con g n (wid g s w n) from rfl, e_has6 (by omega) (by omega)]
      simp only [bnd1_some', i01]
      cases hb : (con g n (wid g s w n)).testBit a with
      | false =>
        have e : f6 g n w a x O s = 0 := by
          unfold f6 tw tg
          rw [if_pos d, hb, if_neg (by decide), Nat.mul_zero]
        rw [e, Nat.add_zero] at hi
        rw [if_pos rfl]
        exact hi
      | true =>
        have e : f6 g n w a x O s = (10 - x) ^ popc s * x ^ (popc O - popc s) := by
          unfold f6 tw tg
          rw [if_pos d, hb, if_pos rfl, Nat.mul_one, popc_bt (show s < 256 by omega), popc_bt h256]
        have hb8 := pow_8 x (by omega) (popc s) (by omega) (popc O - popc s) (by omega) (by omega)
        rw [if_neg (by decide), e_ones hF (show s < 256 by omega)]
        simp only [bnd1_some']
        rw [show (10 : Int32) - nI x = nI (10 - x) from pk_sub (a := 10) hx, e_pow6 hF (by omega) (by omega), pk_sub h2, e_pow6 hF (by omega) (by omega)]
        simp only [bnd1_some']
        rw [pk_mul, nI_l (by omega), lN_add, ← e]
        exact hi
    · rw [if_neg d]
      have e : f6 g n w a x O s = 0 := if_neg d
      rw [e, Nat.add_zero] at hi
      exact hi
theorem core_falls {N n F : Nat} {g : Nat → Nat → Nat} {size st stations : Int32} {rows page : Nat → Int32} (hF : F = 1000) (h : CV N n g size st rows stations page) (y1 y2 y3 y4 th : Int32) (up low : Int64) : ∃ r up' low', f_X5_falls F y1 y2 y3 y4 size st rows = some r ∧ f_X6_falls F y1 y2 y3 y4 th stations up low page = some (r, 0, up', low') := by
  obtain ⟨hw, ⟨rfl, rfl, hr⟩, hp, rfl⟩ := h
  have hN : N ≤ 6 := hw.2.2.1
  have hg := hw.wg
  have hn := hw.1
  have hp2 : 2 ^ n ≤ 256 := p2_256 hg.1
  have hO := opn_lt g 0 n
  have h256 := S_lt hn hO
  have l1 : (1 : Int64).toInt = 1 := by decide
  have l9 : (9 : Int64).toInt = 9 := by decide
  have k1 : (1 : Int32).toInt = 1 := by decide
  have k9 : (9 : Int32).toInt = 9 := by decide
  have k10 : (10 : Int32).toInt = 10 := by decide
  have e2 : ((1 : Int64) ≤ y2.toInt64 ∧ y2.toInt64 ≤ (9 : Int64)) ↔ (1 ≤ y2.toInt ∧ y2.toInt ≤ 9) := by rw [fa_le64, fa_le64, Int32.toInt_toInt64, l1, l9]
  have e3 := v_in y3 10 (by omega)
  rw [show Int64.ofNat 10 = (10 : Int64) from rfl] at e3
  have eg : f_X5_isGirth y2 = some (if 1 ≤ y2.toInt ∧ y2.toInt ≤ 9 then 1 else 0) := by
    unfold f_X5_isGirth
    simp only [fa_lt, k1, k9]
    by_cases c1 : y2.toInt < 1
    · rw [if_pos c1, if_neg (by omega)]
    · rw [if_neg c1]
      by_cases c2 : 9 < y2.toInt
      · rw [if_pos c2, if_neg (by omega)]
      · rw [if_neg c2, if_pos (by omega)]
  unfold f_X5_falls f_X6_falls
  rw [e_hasSt y1 (by omega), e_noSt y1 (by omega), eg, e_in, e_in, e_openOnes hg hp]
  simp only [bnd1_some', e2, e3, fa_lt, fa_le, lit_0, k10]
  rw [e_ones hF h256]
  simp only [bnd1_some']
  rcases st_cases y1 (N := N) (by omega) with h1 | ⟨a, ha, rfl⟩
  · exact ⟨-1, up, low, by rw [if_neg h1, if_pos rfl], by rw [if_neg h1, if_neg (by decide)]⟩
  have hin := in_a ha (show N ≤ 8 by omega)
  rw [if_pos hin, if_neg (by decide), if_pos hin, if_pos rfl]
  by_cases c1 : 1 ≤ y2.toInt ∧ y2.toInt ≤ 9
  · rw [if_pos c1, if_neg (show ¬ (1 : Int32) = 0 by decide), if_neg (show ¬ (1 : Int32) = 0 by decide)]
    rcases tri y2 (M := 9) (by decide) with h0 | h0 | ⟨w, hw9, rfl⟩
    · omega
    · omega
    rcases tri y3 (M := 10) (by decide) with h0 | h0 | ⟨x, hx, rfl⟩
    · exact ⟨-2, up, low, by rw [if_pos h0], by rw [if_neg (show ¬ (0 ≤ y3.toInt ∧ y3.toInt ≤ (10 : Nat)) by omega), if_pos rfl]⟩
    · exact ⟨-2, up, low, by rw [if_neg (show ¬ y3.toInt < 0 by omega), if_neg (show ¬ y3.toInt ≤ 10 by omega)], by rw [if_neg (show ¬ (0 ≤ y3.toInt ∧ y3.toInt ≤ (10 : Nat)) by omega), if_pos rfl]⟩
    rw [nI_toInt (show x < 2 ^ 31 by omega), if_neg (show ¬ (x : Int) < 0 by omega), if_pos (show (x : Int) ≤ 10 by omega), if_pos (show 0 ≤ (x : Int) ∧ (x : Int) ≤ (10 : Nat) by omega), if_neg (show ¬ (1 : Int32) = 0 by decide), e_open (by omega) hg hr (by omega)]
    have hQ := opn_lt g w n
    have hQ256 := S_lt hn hQ
    simp only [bnd1_some']
    rw [e_bitc _ hQ256]
    simp only [bnd1_some']
    have a1 := fl5_in (F := F) (nI n) (nI N) y4 hF hg hr hQ (show a < 6 by omega) hx 256 0 F (by omega) (by omega)
    have a2 := fl6_in (F := F) 0 (nI N) y4 up low hF hg hp hO (show a < 6 by omega) hx (show w < 100 by omega) (opn g 0 n + 1) 0 F (by omega) (by omega)
    have hsub : ldiff (opn g w n) (opn g 0 n) = 0 := sub_of (fun i hi => by
      rw [opn_bit] at hi ⊢
      have := of_decide_eq_true hi
      exact decide_eq_true ⟨this.1, this.2.1, Nat.zero_le _⟩)
    have hE := EE_Q x (opn g 0 n) (opn g w n) hx hsub 8 (tg g n w a) (tf g n a) (fun s hs ho => by
      unfold tg tf
      rw [and_opn (fun l hl => by
        have := sub_bit ho l hl
        rw [opn_bit] at this
        have := of_decide_eq_true this
        exact ⟨this.1, this.2.1⟩)])
    rw [← popc_bt h256, ← popc_bt hQ256] at hE
    have hpl : popc (opn g w n) ≤ popc (opn g 0 n) := popc_sub hsub h256
    have hp8 := popc_8 (x := opn g 0 n)
    have t1 := ten_8 (popc (opn g w n)) (by omega)
    have t2 := ten_8 (popc (opn g 0 n) - popc (opn g w n)) (by omega)
    have t3 := ten_8 (popc (opn g 0 n)) (by omega)
    have t4 : 10 ^ popc (opn g 0 n) = 10 ^ (popc (opn g 0 n) - popc (opn g w n)) * 10 ^ popc (opn g w n) := by
      rw [← Nat.pow_add]; congr 1; omega
    have hE2 : EE x (opn g 0 n) 8 (tg g n w a) = 10 ^ (popc (opn g 0 n) - popc (opn g w n)) * EE x (opn g w n) 8 (tf g n a) := by
      rw [t4] at hE
      have : EE x (opn g 0 n) 8 (tg g n w a) * 10 ^ popc (opn g w n) = (10 ^ (popc (opn g 0 n) - popc (opn g w n)) * EE x (opn g w n) 8 (tf g n a)) * 10 ^ popc (opn g w n) := by
        rw [hE]; generalize 10 ^ popc (opn g w n) = p; grind
      exact Nat.eq_of_mul_eq_mul_right t1.1 this
    have hB := EE_8 (Q := opn g 0 n) hx (tg_1 g n w a)
    have es := sd_mul (d := 10 ^ (popc (opn g 0 n) - popc (opn g w n))) (y := 10 ^ popc (opn g w n)) (x := ((EE x (opn g w n) 8 (tf g n a) : Nat) : Int)) y4 t2.1 t1.1 (by rw [← t4]; omega) (by rw [Int.natAbs_natCast, ← hE2]; omega)
    rw [← Int.natCast_mul, ← hE2, ← t4] at es
    rw [es] at a2
    exact ⟨_, _, _, a1, a2⟩
  · rw [if_neg c1, if_pos rfl, if_pos rfl]
    exact ⟨-2, up, low, rfl, rfl⟩
