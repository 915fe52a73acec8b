/-! ===== what legs lead to: one step, a pass, six passes ===== -/
def stp (g : Nat → Nat → Nat) (S set l : Nat) : Nat := if S.testBit l = true ∧ pr g l &&& set ≠ 0 then set ||| pr g l else set
def pasF (g : Nat → Nat → Nat) (S : Nat) : Nat → Nat → Nat → Nat
  | 0, _, set => set
  | k + 1, l, set => pasF g S k (l + 1) (stp g S set l)
def rch (g : Nat → Nat → Nat) (S n : Nat) : Nat → Nat → Nat
  | 0, set => set
  | k + 1, set => rch g S n k (pasF g S n 0 set)
/-- what the class's rows say of legs (no more than 8 of them) -/
def LW (n : Nat) (g : Nat → Nat → Nat) : Prop := n ≤ 8 ∧ ∀ l, l < n → g l 4 < 6 ∧ g l 5 < 6
theorem WF.lw {n N : Nat} {g : Nat → Nat → Nat} (h : WF n N g) : LW n g := ⟨h.1, fun l hl => by have h1 := h.2.2.1; have h2 := h.2.2.2 l hl; omega⟩
theorem two_lt {a : Nat} (h : a < 6) : 2 ^ a < 64 := by
  have : ∀ a, a < 6 → 2 ^ a < 64 := by decide
  exact this a h
theorem or_lt {a b : Nat} (ha : a < 64) (hb : b < 64) : a ||| b < 64 := Nat.or_lt_two_pow (n := 6) ha hb
theorem pr_lt {n : Nat} {g : Nat → Nat → Nat} (h : LW n g) {l : Nat} (hl : l < n) : pr g l < 64 := or_lt (two_lt (h.2 l hl).1) (two_lt (h.2 l hl).2)
theorem bit_lt {S n l : Nat} (hS : S < 2 ^ n) (h : S.testBit l = true) : l < n := by
  rcases Nat.lt_or_ge l n with q | q
  · exact q
  · have := Nat.testBit_lt_two_pow (Nat.lt_of_lt_of_le hS (Nat.pow_le_pow_right (by omega) q))
    rw [this] at h; cases h
theorem stp_lt {n : Nat} {g : Nat → Nat → Nat} (h : LW n g) {S set l : Nat} (hS : S < 2 ^ n) (hs : set < 64) : stp g S set l < 64 := by
  unfold stp
  by_cases c : S.testBit l = true ∧ pr g l &&& set ≠ 0
  · rw [if_pos c]; exact or_lt hs (pr_lt h (bit_lt hS c.1))
  · rw [if_neg c]; exact hs
theorem pasF_lt {n : Nat} {g : Nat → Nat → Nat} (h : LW n g) {S : Nat} (hS : S < 2 ^ n) : ∀ (k l set : Nat), set < 64 → pasF g S k l set < 64
  | 0, _, _, hs => hs
  | k + 1, l, _, hs => pasF_lt h hS k (l + 1) _ (stp_lt h hS hs)
theorem stp_off {g : Nat → Nat → Nat} {S set l : Nat} (h : S.testBit l = false) : stp g S set l = set := if_neg (fun c => by rw [h] at c; cases c.1)
theorem pasF_off {n : Nat} {g : Nat → Nat → Nat} {S : Nat} (hS : S < 2 ^ n) : ∀ (k l set : Nat), n ≤ l → pasF g S k l set = set
  | 0, _, _, _ => rfl
  | k + 1, l, set, h => by
    show pasF g S k (l + 1) (stp g S set l) = set
    rw [stp_off (Nat.testBit_lt_two_pow (Nat.lt_of_lt_of_le hS (Nat.pow_le_pow_right (by omega) h)))]
    exact pasF_off hS k (l + 1) set (by omega)
theorem pasF_add {g : Nat → Nat → Nat} {S : Nat} : ∀ (a b l set : Nat), pasF g S (a + b) l set = pasF g S b (l + a) (pasF g S a l set)
  | 0, b, l, set => by rw [Nat.zero_add, Nat.add_zero]; rfl
  | a + 1, b, l, set => by
    rw [Nat.succ_add_eq_add_succ] 
    show pasF g S (a + (b + 1)) l set = pasF g S b (l + (a + 1)) (pasF g S a (l + 1) (stp g S set l))
    rw [show a + (b + 1) = (a + b) + 1 by omega]
    show pasF g S (a + b) (l + 1) (stp g S set l) = _
    rw [pasF_add a b (l + 1) (stp g S set l), show l + 1 + a = l + (a + 1) by omega]
theorem pasF_8 {n : Nat} {g : Nat → Nat → Nat} {S set : Nat} (hn : n ≤ 8) (hS : S < 2 ^ n) : pasF g S 8 0 set = pasF g S n 0 set := by
  rw [show 8 = n + (8 - n) by omega, pasF_add, pasF_off hS _ _ _ (by omega)]
theorem rch_fix {g : Nat → Nat → Nat} {S n set : Nat} (h : pasF g S n 0 set = set) : ∀ k, rch g S n k set = set
  | 0 => rfl
  | k + 1 => by
    show rch g S n k (pasF g S n 0 set) = set
    rw [h]; exact rch_fix h k
theorem rch_lt {n : Nat} {g : Nat → Nat → Nat} (h : LW n g) {S : Nat} (hS : S < 2 ^ n) : ∀ (k set : Nat), set < 64 → rch g S n k set < 64
  | 0, _, hs => hs
  | k + 1, _, hs => rch_lt h hS k _ (pasF_lt h hS _ _ _ hs)
theorem S_lt {S n : Nat} (hn : n ≤ 8) (hS : S < 2 ^ n) : S < 256 := Nat.lt_of_lt_of_le hS (Nat.pow_le_pow_right (n := 2) (by omega) hn)
theorem ite_01 (b : Bool) : ((if b = true then (1 : Int32) else 0) = 0) = (b = false) := by cases b <;> decide
theorem spread_in {n F : Nat} {g : Nat → Nat → Nat} {S : Nat} {rows : Nat → Int32} {kb : Int32 → Int32 → Int32 → Option Int32} (hw : LW n g) (hS : S < 2 ^ n) (hr : ∀ l, l < n → rows (8 * l + 7) = nI (pr g l)) (x4 x5 : Int32) : ∀ (k l fuel found : Nat), k + l = 8 → k < fuel → found < 64 → f_X0_spread_L22 F rows kb fuel (nI S) (nI found) x4 x5 (nI (8 * l + 7)) (nI l) = (if nI (pasF g S k l found) = x5 then some (nI (pasF g S k l found)) else kb (nI S) (nI (pasF g S k l found)) (x4 + (1 : Int32)))
  | 0, l, fuel + 1, found, hk, hf, hs => by
    have e : l = 8 := by omega
    subst e
    show f_X0_spread_B22 F rows kb _ _ _ _ _ _ _ = _
    unfold f_X0_spread_B22
    rfl
  | k + 1, l, fuel + 1, found, hk, hf, hs => by
    have hS8 := S_lt hw.1 hS
    have hl8 : l < 8 := by omega
    show f_X0_spread_B22 F rows kb (f_X0_spread_L22 F rows kb fuel) _ _ _ _ _ _ = _
    unfold f_X0_spread_B22 f_X0_spread_J63
    have ih := fun found' h => spread_in (F := F) (kb := kb) hw hS hr x4 x5 k (l + 1) fuel found' (by omega) (by omega) h
    have e1 : nI (8 * l + 7) + (8 : Int32) = nI (8 * (l + 1) + 7) := by simp only [fa_lit, nI_add]; congr 1
    have e2 : nI l + (1 : Int32) = nI (l + 1) := nI_1 l
    rw [if_neg (show ¬ (64 : Int32) ≤ nI (8 * l + 7) from fun h => absurd ((nI_leI (a := 64) (by omega) (by omega)).mp h) (by omega))]
    simp only [nmd, e1, e2]
    rw [bit_nI (by omega) (by omega)]
    simp only [ite_01]
    rw [chk_nI (by omega) (by omega), chk_nI (by omega) (by omega), cl_nI (by omega)]
    rw [show pasF g S (k + 1) l found = pasF g S k (l + 1) (stp g S found l) from rfl]
    cases hb : S.testBit l with
    | false =>
      rw [if_pos rfl, stp_off hb]
      exact ih found hs
    | true =>
      rw [if_neg (by decide)]
      have hl := bit_lt hS hb
      rw [hr l hl, fa_and, fa_or]
      have hp := pr_lt hw hl
      have hlt : pr g l &&& found < 64 := Nat.lt_of_le_of_lt Nat.and_le_right hs
      by_cases c : pr g l &&& found = 0
      · rw [if_pos (by rw [c]; rfl)]
        have e3 : stp g S found l = found := if_neg (fun q => q.2 c)
        rw [e3]
        exact ih found hs
      · rw [if_neg (show ¬ nI (pr g l &&& found) = (0 : Int32) from fun h => c ((nI_eq (b := 0) (by omega) (by omega)).mp h))]
        have e3 : stp g S found l = found ||| pr g l := if_pos ⟨hb, c⟩
        rw [e3]
        exact ih _ (or_lt hs hp)
theorem spread_out {n F : Nat} {g : Nat → Nat → Nat} {S : Nat} {rows : Nat → Int32} (hF : 8 < F) (hw : LW n g) (hS : S < 2 ^ n) (hr : ∀ l, l < n → rows (8 * l + 7) = nI (pr g l)) : ∀ (k t fuel found : Nat), k + t = 6 → k < fuel → found < 64 → f_X0_spread_L5 F rows fuel (nI S) (nI found) (nI t) = some (nI (rch g S n k found))
  | 0, t, fuel + 1, found, hk, hf, hs => by
    have e : t = 6 := by omega
    subst e
    rfl
  | k + 1, t, fuel + 1, found, hk, hf, hs => by
    show f_X0_spread_B5 F rows (f_X0_spread_L5 F rows fuel) _ _ _ = _
    unfold f_X0_spread_B5
    rw [if_neg (show ¬ (6 : Int32) ≤ nI t from fun h => absurd ((nI_leI (a := 6) (by omega) (by omega)).mp h) (by omega))]
    have h0 := spread_in (F := F) (kb := f_X0_spread_L5 F rows fuel) hw hS hr (nI t) (nI found) 8 0 F found rfl hF hs
    have h1 : f_X0_spread_L22 F rows (f_X0_spread_L5 F rows fuel) F (nI S) (nI found) (nI t) (nI found) (7 : Int32) (0 : Int32) = _ := h0
    rw [h1, pasF_8 hw.1 hS]
    have hp := pasF_lt hw hS n 0 found hs
    by_cases c : pasF g S n 0 found = found
    · rw [if_pos (by rw [c]), c, rch_fix c]
    · rw [if_neg (fun h => c ((nI_eq (by omega) (by omega)).mp h)), nI_1 t]
      exact spread_out hF hw hS hr k (t + 1) fuel _ (by omega) (by omega) hp
theorem e_spread {n F : Nat} {g : Nat → Nat → Nat} {S set : Nat} {rows : Nat → Int32} (hF : 8 < F) (hw : LW n g) (hS : S < 2 ^ n) (hs : set < 64) (hr : ∀ l, l < n → rows (8 * l + 7) = nI (pr g l)) : f_X0_spread F (nI S) (nI set) rows = some (nI (rch g S n 6 set)) :=
  spread_out hF hw hS hr 6 0 F set rfl (by omega) hs
/-! ===== the reference's side ===== -/
/-- legs of S that are at least as wide as w -/
def wid (g : Nat → Nat → Nat) (S w : Nat) : Nat → Nat
  | 0 => 0
  | n + 1 => wid g S w n + (if S.testBit n = true ∧ w ≤ g n 3 then 2 ^ n else 0)
theorem wid_lt (g : Nat → Nat → Nat) (S w : Nat) : ∀ n, wid g S w n < 2 ^ n
  | 0 => by show 0 < 1; omega
  | n + 1 => by
    have := wid_lt g S w n
    show wid g S w n + _ < 2 ^ (n + 1)
    rw [Nat.pow_succ]
    by_cases c : S.testBit n = true ∧ w ≤ g n 3
    · rw [if_pos c]; omega
    · rw [if_neg c]; omega
theorem wid_bit (g : Nat → Nat → Nat) (S w : Nat) : ∀ n l, (wid g S w n).testBit l = decide (l < n ∧ S.testBit l = true ∧ w ≤ g l 3)
  | 0, l => by simp [wid]
  | n + 1, l => by
    show (wid g S w n + _).testBit l = _
    have hlt := wid_lt g S w n
    by_cases c : S.testBit n = true ∧ w ≤ g n 3
    · rw [if_pos c, Nat.add_comm, ← Nat.mul_one (2 ^ n), Nat.testBit_two_pow_mul_add 1 hlt]
      by_cases h : l < n
      · rw [if_pos h, wid_bit g S w n l]
        simp [h, Nat.lt_succ_of_lt h]
      · rw [if_neg h]
        by_cases e : l = n
        · subst e; simp [c]
        · have h1 : ¬ l < n + 1 := by omega
          have h2 : (1 : Nat).testBit (l - n) = false := by
            rw [show l - n = (l - n - 1) + 1 by omega, Nat.testBit_succ]; simp
          rw [h2]; simp [h1]
    · rw [if_neg c, Nat.add_zero, wid_bit g S w n l]
      by_cases e : l = n
      · subst e; simp; exact fun h => Nat.lt_of_not_le (fun h2 => c ⟨h, h2⟩)
      · have : (l < n) ↔ (l < n + 1) := by omega
        simp [this]
theorem e_of {l j : Nat} (page : Nat → Int32) (hl : l < 8) (hj : j < 6) : f_X6_of (nI l) (nI j) page = some (page (2 + 6 * l + j)) := by
  unfold f_X6_of
  simp (disch := omega) only [fa_lit, pk_mul, nI_add, chk_nI, cl_nI]
theorem e_has6 {a l : Nat} (ha : a < 2 ^ 31) (hl : l < 32) : f_X6_has (nI a) (nI l) = some (if a.testBit l = true then 1 else 0) := by
  unfold f_X6_has
  rw [bit_nI ha hl]
  cases a.testBit l <;> rfl
theorem pr_and (g : Nat → Nat → Nat) (l set : Nat) : (pr g l &&& set ≠ 0) ↔ (set.testBit (g l 4) = true ∨ set.testBit (g l 5) = true) := by
  unfold pr
  rw [Nat.and_or_distrib_right, Nat.and_comm (2 ^ g l 4), Nat.and_comm (2 ^ g l 5)]
  have h1 := fb_bit_nat set (g l 4)
  have h2 := fb_bit_nat set (g l 5)
  constructor
  · intro h
    cases b1 : set.testBit (g l 4) with
    | true => exact Or.inl rfl
    | false =>
      cases b2 : set.testBit (g l 5) with
      | true => exact Or.inr rfl
      | false => exact absurd (by rw [h1.mpr b1, h2.mpr b2]; rfl) h
  · intro h e
    have e' := Nat.or_eq_zero_iff.mp e
    rw [h1.mp e'.1, h2.mp e'.2] at h
    simp at h
theorem chk_0 {α : Type} {n : Nat} {x : Option α} (h : 0 < n) (hn : n < 2 ^ 31) : chk (0 : Int32) n x = x := chk_nI (i := 0) h hn
theorem bnd1_some' {α ρ : Type} (x : α) (f : α → Option ρ) : bnd1 (some x) f = f x := rfl
theorem i01 (b : Bool) : ((if b = true then (1 : Int32) else 0) = (0 : Int32)) ↔ b = false := by cases b <;> decide
theorem reached_in {n F : Nat} {g : Nat → Nat → Nat} {S w : Nat} {page : Nat → Int32} {kb : Int32 → Int32 → Int32 → Int32 → Option Int32} (hw : LW n g) (hS : S < 2 ^ n) (hwi : w < 100) (hg : ∀ l, l < n → g l 3 < 100) (hp : page 0 = nI n) (hr : ∀ l, l < n → ∀ j, j < 6 → page (2 + 6 * l + j) = nI (g l j)) (x5 : Int32) : ∀ (k l fuel set : Nat), k + l = n → k < fuel → set < 64 → f_X6_reached_L16 F page kb fuel (nI S) (nI w) (nI set) x5 (nI l) = kb (nI S) (nI w) (nI (pasF g (wid g S w n) k l set)) (x5 + (1 : Int32))
  | 0, l, fuel + 1, set, hk, hf, hs => by
    have e : l = n := by omega
    subst e
    show f_X6_reached_B16 F page kb _ _ _ _ _ _ = _
    unfold f_X6_reached_B16
    rw [chk_0 (by omega) (by omega), show Int32.toNatClampNeg (0 : Int32) = 0 from rfl, hp, if_pos (nI_le (Nat.le_refl _) (by have := hw.1; omega))]
    rfl
  | k + 1, l, fuel + 1, set, hk, hf, hs => by
    have hS8 := S_lt hw.1 hS
    have hn := hw.1
    have hl : l < n := by omega
    have ih := fun set' h => reached_in (F := F) (kb := kb) hw hS hwi hg hp hr x5 k (l + 1) fuel set' (by omega) (by omega) h
    have hf4 := (hw.2 l hl).1
    have hf5 := (hw.2 l hl).2
    have hg3 := hg l hl
    show f_X6_reached_B16 F page kb (f_X6_reached_L16 F page kb fuel) _ _ _ _ _ = _
    unfold f_X6_reached_B16 f_X6_reached_J74 f_X6_reached_J98
    rw [chk_0 (by omega) (by omega), show Int32.toNatClampNeg (0 : Int32) = 0 from rfl, hp, if_neg (nI_ge hl (by omega))]
    have o3 : f_X6_of (nI l) (3 : Int32) page = some (nI (g l 3)) := by rw [← hr l hl 3 (by omega)]; exact e_of (j := 3) page (by omega) (by omega)
    have o4 : f_X6_of (nI l) (4 : Int32) page = some (nI (g l 4)) := by rw [← hr l hl 4 (by omega)]; exact e_of (j := 4) page (by omega) (by omega)
    have o5 : f_X6_of (nI l) (5 : Int32) page = some (nI (g l 5)) := by rw [← hr l hl 5 (by omega)]; exact e_of (j := 5) page (by omega) (by omega)
    rw [e_has6 (by omega) (by omega), o3, o4, o5]
    simp only [bnd1_some', i01]
    rw [e_has6 (by omega) (by omega), e_has6 (by omega) (by omega), shl_nI (by omega), shl_nI (by omega)]
    simp only [bnd1_some', i01, nmd, fa_or, nI_1]
    rw [show pasF g (wid g S w n) (k + 1) l set = pasF g (wid g S w n) k (l + 1) (stp g (wid g S w n) set l) from rfl]
    have hbit := wid_bit g S w n l
    have hpa := pr_and g l set
    cases hb : S.testBit l with
    | false =>
      rw [if_pos rfl, stp_off (by rw [hbit, hb]; simp)]
      exact ih set hs
    | true =>
      rw [if_neg (by decide)]
      by_cases hwd : w ≤ g l 3
      · rw [if_neg (nI_nlt hwd (by omega))]
        have hbt : (wid g S w n).testBit l = true := by rw [hbit, hb]; simp [hl, hwd]
        by_cases c : pr g l &&& set ≠ 0
        · have e3 : stp g (wid g S w n) set l = set ||| pr g l := if_pos ⟨hbt, c⟩
          rw [e3]
          have c2 := hpa.mp c
          have fin := ih (set ||| pr g l) (or_lt hs (pr_lt hw hl))
          cases b4 : set.testBit (g l 4) with
          | true => rw [if_neg (by decide)]; exact fin
          | false =>
            rw [if_pos rfl]
            rw [b4] at c2
            cases b5 : set.testBit (g l 5) with
            | true => rw [if_neg (by decide)]; exact fin
            | false => rw [b5] at c2; simp at c2
        · have e3 : stp g (wid g S w n) set l = set := if_neg (fun q => c q.2)
          rw [e3]
          have c2 : ¬ (set.testBit (g l 4) = true ∨ set.testBit (g l 5) = true) := fun q => c (hpa.mpr q)
          have b4 : set.testBit (g l 4) = false := by cases h : set.testBit (g l 4) with
            | false => rfl
            | true => exact absurd (Or.inl h) c2
          have b5 : set.testBit (g l 5) = false := by cases h : set.testBit (g l 5) with
            | false => rfl
            | true => exact absurd (Or.inr h) c2
          rw [b4, b5, if_pos rfl, if_pos rfl]
          exact ih set hs
      · rw [if_pos (nI_lt (by omega) (by omega))]
        rw [stp_off (by rw [hbit]; simp [hwd])]
        exact ih set hs
theorem reached_out {n F : Nat} {g : Nat → Nat → Nat} {S w : Nat} {page : Nat → Int32} (hF : 8 < F) (hw : LW n g) (hS : S < 2 ^ n) (hwi : w < 100) (hg : ∀ l, l < n → g l 3 < 100) (hp : page 0 = nI n) (hr : ∀ l, l < n → ∀ j, j < 6 → page (2 + 6 * l + j) = nI (g l j)) : ∀ (k t fuel set : Nat), k + t = 6 → k < fuel → set < 64 → f_X6_reached_L6 F page fuel (nI S) (nI w) (nI set) (nI t) = some (nI (rch g (wid g S w n) n k set))
  | 0, t, fuel + 1, set, hk, hf, hs => by
    have e : t = 6 := by omega
    subst e
    rfl
  | k + 1, t, fuel + 1, set, hk, hf, hs => by
    have hn := hw.1
    show f_X6_reached_B6 F page (f_X6_reached_L6 F page fuel) _ _ _ _ = _
    unfold f_X6_reached_B6
    rw [if_neg (show ¬ (6 : Int32) ≤ nI t from fun h => absurd ((nI_leI (a := 6) (by omega) (by omega)).mp h) (by omega))]
    have h1 : f_X6_reached_L16 F page (f_X6_reached_L6 F page fuel) F (nI S) (nI w) (nI set) (nI t) (0 : Int32) = _ := reached_in (F := F) (kb := f_X6_reached_L6 F page fuel) hw hS hwi hg hp hr (nI t) n 0 F set (by omega) (by omega) hs
    rw [h1, nI_1 t]
    exact reached_out hF hw hS hwi hg hp hr k (t + 1) fuel _ (by omega) (by omega) (pasF_lt hw (wid_lt g S w n) n 0 set hs)
theorem e_reached {n F : Nat} {g : Nat → Nat → Nat} {S w : Nat} {page : Nat → Int32} (hF : 8 < F) (hw : LW n g) (hS : S < 2 ^ n) (hwi : w < 100) (hg : ∀ l, l < n → g l 3 < 100) (hp : page 0 = nI n) (hr : ∀ l, l < n → ∀ j, j < 6 → page (2 + 6 * l + j) = nI (g l j)) : f_X6_reached F (nI S) (nI w) page = some (nI (rch g (wid g S w n) n 6 1)) :=
  reached_out hF hw hS hwi hg hp hr 6 0 F 1 rfl (by omega) (by omega)
theorem from_in {n F : Nat} {g : Nat → Nat → Nat} {S w : Nat} {page : Nat → Int32} {kb : Int32 → Int32 → Int32 → Int32 → Option Int32} (hw : LW n g) (hS : S < 2 ^ n) (hwi : w < 100) (hg : ∀ l, l < n → g l 3 < 100) (hp : page 0 = nI n) (hr : ∀ l, l < n → ∀ j, j < 6 → page (2 + 6 * l + j) = nI (g l j)) (x6 : Int32) : ∀ (k l fuel set : Nat), k + l = n → k < fuel → set < 64 → f_X6_from_L18 F page kb fuel (nI S) (nI w) (nI set) x6 (nI l) = kb (nI S) (nI w) (nI (pasF g (wid g S w n) k l set)) (x6 + (1 : Int32))
  | 0, l, fuel + 1, set, hk, hf, hs => by
    have e : l = n := by omega
    subst e
    show f_X6_from_B18 F page kb _ _ _ _ _ _ = _
    unfold f_X6_from_B18
    rw [chk_0 (by omega) (by omega), show Int32.toNatClampNeg (0 : Int32) = 0 from rfl, hp, if_pos (nI_le (Nat.le_refl _) (by have := hw.1; omega))]
    rfl
  | k + 1, l, fuel + 1, set, hk, hf, hs => by
    have hS8 := S_lt hw.1 hS
    have hn := hw.1
    have hl : l < n := by omega
    have ih := fun set' h => from_in (F := F) (kb := kb) hw hS hwi hg hp hr x6 k (l + 1) fuel set' (by omega) (by omega) h
    have hf4 := (hw.2 l hl).1
    have hf5 := (hw.2 l hl).2
    have hg3 := hg l hl
    show f_X6_from_B18 F page kb (f_X6_from_L18 F page kb fuel) _ _ _ _ _ = _
    unfold f_X6_from_B18 f_X6_from_J56 f_X6_from_J61 f_X6_from_J113 f_X6_from_J114
    rw [chk_0 (by omega) (by omega), show Int32.toNatClampNeg (0 : Int32) = 0 from rfl, hp, if_neg (nI_ge hl (by omega))]
    have o3 : f_X6_of (nI l) (3 : Int32) page = some (nI (g l 3)) := by rw [← hr l hl 3 (by omega)]; exact e_of (j := 3) page (by omega) (by omega)
    have o4 : f_X6_of (nI l) (4 : Int32) page = some (nI (g l 4)) := by rw [← hr l hl 4 (by omega)]; exact e_of (j := 4) page (by omega) (by omega)
    have o5 : f_X6_of (nI l) (5 : Int32) page = some (nI (g l 5)) := by rw [← hr l hl 5 (by omega)]; exact e_of (j := 5) page (by omega) (by omega)
    rw [o3, o4, o5]
    simp only [bnd1_some']
    rw [e_has6 (by omega) (by omega), e_has6 (by omega) (by omega), e_has6 (by omega) (by omega), shl_nI (by omega), shl_nI (by omega)]
    have or0 : nI set ||| (0 : Int32) = nI set := by rw [fa_lit 0, fa_or, Nat.or_zero]
    simp only [bnd1_some', i01, nmd, fa_or, nI_1, or0]
    rw [show pasF g (wid g S w n) (k + 1) l set = pasF g (wid g S w n) k (l + 1) (stp g (wid g S w n) set l) from rfl]
    have hbit := wid_bit g S w n l
    have hpa := pr_and g l set
    have one0 : ¬ (1 : Int32) = 0 := by decide
    cases hb : S.testBit l with
    | false =>
      have e3 : stp g (wid g S w n) set l = set := stp_off (by rw [hbit, hb]; simp)
      rw [e3]
      simp
      exact ih set hs
    | true =>
      by_cases hwd : w ≤ g l 3
      · have hlt := nI_nlt hwd (show g l 3 < 2 ^ 31 by omega)
        have hbt : (wid g S w n).testBit l = true := by rw [hbit, hb]; simp [hl, hwd]
        by_cases c : pr g l &&& set ≠ 0
        · have e3 : stp g (wid g S w n) set l = set ||| pr g l := if_pos ⟨hbt, c⟩
          rw [e3]
          have c2 := hpa.mp c
          have fin := ih (set ||| pr g l) (or_lt hs (pr_lt hw hl))
          unfold pr at fin
          cases b4 : set.testBit (g l 4) with
          | true => simp [hlt]; exact fin
          | false =>
            rw [b4] at c2
            cases b5 : set.testBit (g l 5) with
            | true => simp [hlt]; exact fin
            | false => rw [b5] at c2; simp at c2
        · have e3 : stp g (wid g S w n) set l = set := if_neg (fun q => c q.2)
          rw [e3]
          have c2 : ¬ (set.testBit (g l 4) = true ∨ set.testBit (g l 5) = true) := fun q => c (hpa.mpr q)
          have b4 : set.testBit (g l 4) = false := by cases h : set.testBit (g l 4) with
            | false => rfl
            | true => exact absurd (Or.inl h) c2
          have b5 : set.testBit (g l 5) = false := by cases h : set.testBit (g l 5) with
            | false => rfl
            | true => exact absurd (Or.inr h) c2
          rw [b4, b5]
          simp [hlt]
          exact ih set hs
      · have hlt := nI_lt (show g l 3 < w by omega) (show w < 2 ^ 31 by omega)
        have e3 : stp g (wid g S w n) set l = set := stp_off (by rw [hbit]; simp [hwd])
        rw [e3]
        simp [hlt]
        exact ih set hs
theorem from_out {n F : Nat} {g : Nat → Nat → Nat} {S w : Nat} {page : Nat → Int32} (hF : 8 < F) (hw : LW n g) (hS : S < 2 ^ n) (hwi : w < 100) (hg : ∀ l, l < n → g l 3 < 100) (hp : page 0 = nI n) (hr : ∀ l, l < n → ∀ j, j < 6 → page (2 + 6 * l + j) = nI (g l j)) : ∀ (k t fuel set : Nat), k + t = 6 → k < fuel → set < 64 → f_X6_from_L8 F page fuel (nI S) (nI w) (nI set) (nI t) = some (nI (rch g (wid g S w n) n k set))
  | 0, t, fuel + 1, set, hk, hf, hs => by
    have e : t = 6 := by omega
    subst e
    rfl
  | k + 1, t, fuel + 1, set, hk, hf, hs => by
    have hn := hw.1
    show f_X6_from_B8 F page (f_X6_from_L8 F page fuel) _ _ _ _ = _
    unfold f_X6_from_B8
    rw [if_neg (show ¬ (6 : Int32) ≤ nI t from fun h => absurd ((nI_leI (a := 6) (by omega) (by omega)).mp h) (by omega))]
    have h1 : f_X6_from_L18 F page (f_X6_from_L8 F page fuel) F (nI S) (nI w) (nI set) (nI t) (0 : Int32) = _ := from_in (F := F) (kb := f_X6_from_L8 F page fuel) hw hS hwi hg hp hr (nI t) n 0 F set (by omega) (by omega) hs
    rw [h1, nI_1 t]
    exact from_out hF hw hS hwi hg hp hr k (t + 1) fuel _ (by omega) (by omega) (pasF_lt hw (wid_lt g S w n) n 0 set hs)
theorem e_from {n F : Nat} {g : Nat → Nat → Nat} {S st w : Nat} {page : Nat → Int32} (hF : 8 < F) (hw : LW n g) (hS : S < 2 ^ n) (hst : st < 6) (hwi : w < 100) (hg : ∀ l, l < n → g l 3 < 100) (hp : page 0 = nI n) (hr : ∀ l, l < n → ∀ j, j < 6 → page (2 + 6 * l + j) = nI (g l j)) : f_X6_from F (nI S) (nI st) (nI w) page = some (nI (rch g (wid g S w n) n 6 (2 ^ st))) := by
  unfold f_X6_from
  rw [shl_nI (by omega)]
  exact from_out hF hw hS hwi hg hp hr 6 0 F _ rfl (by omega) (two_lt hst)
