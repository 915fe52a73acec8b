/-! ===== pure words: bits of small sets ===== -/
def bit (a l : Nat) : Bool := a.testBit l
/-- all of a that isn't in b -/
def ldiff (a b : Nat) : Nat := a ^^^ (a &&& b)
theorem ldiff_bit (a b i : Nat) : (ldiff a b).testBit i = (a.testBit i && !b.testBit i) := by
  unfold ldiff
  rw [Nat.testBit_xor, Nat.testBit_and]
  cases a.testBit i <;> cases b.testBit i <;> rfl
theorem shl_nI {l : Nat} (h : l < 31) : shlI (1 : Int32) (nI l) = nI (2 ^ l) := by
  have : ∀ l, l < 31 → shlI (1 : Int32) (nI l) = nI (2 ^ l) := by decide +kernel
  exact this l h
theorem sh_amt : ∀ l, l < 32 → ((nI l &&& 31).toBitVec.smod 32).toNat = l := by decide +kernel
theorem shr_nI {a l : Nat} (ha : a < 2 ^ 31) (hl : l < 32) : shrI (nI a) (nI l) = nI (a / 2 ^ l) := by
  unfold shrI
  exact pk_shrN ha (nI l &&& 31) l (sh_amt l hl)
theorem and1_nI (a : Nat) : nI a &&& (1 : Int32) = nI (a % 2) := by
  have := fa_mask a 1
  exact this
theorem bit_nI {a l : Nat} (ha : a < 2 ^ 31) (hl : l < 32) : shrI (nI a) (nI l) &&& (1 : Int32) = if a.testBit l then 1 else 0 := by
  rw [shr_nI ha hl, and1_nI, Nat.testBit_eq_decide_div_mod_eq]
  by_cases h : a / 2 ^ l % 2 = 1
  · rw [h]; simp; rfl
  · have h0 : a / 2 ^ l % 2 = 0 := by omega
    rw [h0]; simp; rfl
theorem xor_nI (a b : Nat) : nI a ^^^ nI b = nI (a ^^^ b) := by
  apply Int32.toBitVec_inj.1
  show BitVec.ofNat 32 a ^^^ BitVec.ofNat 32 b = BitVec.ofNat 32 (a ^^^ b)
  apply BitVec.eq_of_getLsbD_eq
  intro i hi
  rw [BitVec.getLsbD_xor, BitVec.getLsbD_ofNat, BitVec.getLsbD_ofNat, BitVec.getLsbD_ofNat, Nat.testBit_xor]
  simp [hi]
theorem not_nI {a b : Nat} (ha : a < 2 ^ 31) : nI a &&& (nI b ^^^ (-1 : Int32)) = nI (ldiff a b) := by
  apply Int32.toBitVec_inj.1
  show BitVec.ofNat 32 a &&& (BitVec.ofNat 32 b ^^^ BitVec.allOnes 32) = BitVec.ofNat 32 (ldiff a b)
  apply BitVec.eq_of_getLsbD_eq
  intro i hi
  rw [BitVec.getLsbD_and, BitVec.getLsbD_xor, BitVec.getLsbD_ofNat, BitVec.getLsbD_ofNat, BitVec.getLsbD_ofNat, BitVec.getLsbD_allOnes, ldiff_bit]
  simp [hi]
theorem ldiff_le (a b : Nat) : ldiff a b ≤ a := by
  apply Nat.le_of_testBit
  intro i h
  rw [ldiff_bit] at h
  simp at h
  exact h.1
theorem in_nI {i n : Nat} (h : i < n) (hn : n < 2 ^ 31) : vp_in (nI i) n := vp_in_nI h hn
theorem cl_nI {i : Nat} (h : i < 2 ^ 31) : Int32.toNatClampNeg (nI i) = i := nI_clamp h
theorem chk_nI {α : Type} {i n : Nat} {x : Option α} (h : i < n) (hn : n < 2 ^ 31) : chk (nI i) n x = x := chk_in (vp_in_nI h hn)
/-! ===== small methods of the class ===== -/
theorem e_get {l j : Nat} (rows : Nat → Int32) (hl : l < 8) (hj : j < 8) : f_X0_get (nI l) (nI j) rows = some (rows (8 * l + j)) := by
  unfold f_X0_get
  have e : nI l * (8 : Int32) + nI j = nI (8 * l + j) := by rw [fa_lit 8, pk_mul, nI_add, Nat.mul_comm]
  rw [e, chk_nI (by omega) (by omega), cl_nI (by omega)]
  rw [if_neg (nI_pos (by omega)), if_neg (by rw [fa_lit 8]; exact nI_ge hl (by omega)), if_neg (nI_pos (by omega)), if_pos (by rw [fa_lit 8]; exact nI_lt hj (by omega))]
theorem e_has {n : Nat} (x : Int32) (hn : n ≤ 8) : f_X0_has x (nI n) = some (if 0 ≤ x.toInt ∧ x.toInt < n then 1 else 0) := by
  unfold f_X0_has
  simp only [fa_lt, fa_le]
  have h0 : (0 : Int32).toInt = 0 := by decide
  rw [nI_toInt (by omega), h0]
  by_cases h1 : x.toInt < 0
  · rw [if_pos h1, if_neg (by omega)]
  · rw [if_neg h1]
    by_cases h2 : (n : Int) ≤ x.toInt
    · rw [if_pos h2, if_neg (by omega)]
    · rw [if_neg h2, if_pos (by omega)]
theorem e_in (x a b : Int64) : f_X6_in x a b = some (if a ≤ x ∧ x ≤ b then 1 else 0) := by
  unfold f_X6_in
  by_cases h1 : x < a
  · rw [if_pos h1, if_neg (fun h => by rw [fa_lt64] at h1; rw [fa_le64] at h; omega)]
  · rw [if_neg h1]
    by_cases h2 : b < x
    · rw [if_pos h2, if_neg (fun h => by rw [fa_lt64] at h2; rw [fa_le64, fa_le64] at h; omega)]
    · rw [if_neg h2, if_pos ⟨by rw [fa_lt64] at h1; rw [fa_le64]; omega, by rw [fa_lt64] at h2; rw [fa_le64]; omega⟩]
