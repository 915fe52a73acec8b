/-! ===== the relation between the class's state and the reference's ===== -/
def WF (n N : Nat) (g : Nat → Nat → Nat) : Prop := n ≤ 8 ∧ 1 ≤ N ∧ N ≤ 6 ∧ ∀ l, l < n → 1 ≤ g l 0 ∧ g l 0 ≤ 99 ∧ g l 1 ≤ 11 ∧ g l 2 ≤ 4 ∧ 1 ≤ g l 3 ∧ g l 3 ≤ 9 ∧ g l 4 < N ∧ g l 5 < N ∧ g l 4 ≠ g l 5 ∧ g l 6 ≤ 1
def pr (g : Nat → Nat → Nat) (l : Nat) : Nat := 2 ^ (g l 4) ||| 2 ^ (g l 5)
def RLg (n N : Nat) (g : Nat → Nat → Nat) (rows : Nat → Int32) (size st : Int32) : Prop := size = nI n ∧ st = nI N ∧ ∀ l, l < n → (∀ j, j < 7 → rows (8 * l + j) = nI (g l j)) ∧ rows (8 * l + 7) = nI (pr g l)
/-- the set of the fallen legs -/
def fm (g : Nat → Nat → Nat) : Nat → Nat
  | 0 => 0
  | n + 1 => fm g n + 2 ^ n * g n 6
def RPg (n : Nat) (g : Nat → Nat → Nat) (page : Nat → Int32) : Prop := page 0 = nI n ∧ page 1 = nI (fm g n) ∧ ∀ l, l < n → ∀ j, j < 6 → page (2 + 6 * l + j) = nI (g l j)
def RelT (len : Int32) (letters : Nat → Int32) (ts : Int32) (text : Nat → Int32) : Prop := ∃ q : Nat, q ≤ 70 ∧ len = nI q ∧ ts = nI q ∧ ∀ i, i < q → ∃ c : Nat, c ≤ 255 ∧ letters i = nI c ∧ text i = nI c
def RelS (size : Int32) (rows : Nat → Int32) (seen : Int32) (sS sO sV sW : Nat → Int32) : Prop := ∃ q : Nat, q ≤ 6 ∧ size = nI q ∧ seen = nI q ∧ ∀ i, i < q → ∃ a b v w : Nat, a < 6 ∧ b < 6 ∧ v ≤ 10 ∧ w ≤ 1 ∧ rows (4 * i) = nI a ∧ rows (4 * i + 1) = nI b ∧ rows (4 * i + 2) = nI v ∧ rows (4 * i + 3) = nI w ∧ sS i = nI a ∧ sO i = nI b ∧ sV i = nI v ∧ sW i = nI w
def RelU (N : Nat) (next depth : Int32) (C : CT) (doings : Int32) (book : Nat → Int32) : Prop := ∃ d x : Nat, d ≤ 14 ∧ x < 14 ∧ next = nI x ∧ depth = nI d ∧ doings = nI d ∧ ∀ i, i < d → ∃ (n : Nat) (g : Nat → Nat → Nat) (s t : Int32) (r : Nat → Int32), WF n N g ∧ C ((x + 14 - d + i) % 14) = some (s, t, r) ∧ RLg n N g r s t ∧ RPg n g (fun j => book (50 * i + j))
def RelK (N : Nat) (filled : Int32) (C : CT) (kept isKept : Nat → Int32) : Prop := ∃ f : Nat, f < 4 ∧ filled = nI f ∧ ∀ i, i < 2 → isKept i = (if f.testBit i then 1 else 0) ∧ (f.testBit i = true → ∃ (n : Nat) (g : Nat → Nat → Nat) (s t : Int32) (r : Nat → Int32), WF n N g ∧ C i = some (s, t, r) ∧ RLg n N g r s t ∧ RPg n g (fun j => kept (50 * i + j)))
/-! ===== text ===== -/
theorem lit_I {n : Nat} (h : n < 2 ^ 31) : (OfNat.ofNat n : Int32).toInt = n := nI_toInt h
theorem lit_0 : (0 : Int32).toInt = 0 := by decide
theorem lit_0L : (0 : Int64).toInt = 0 := by decide
theorem chr_nI : ∀ c, c < 256 → i2cI (nI c) = nI c ∧ vp_nar .char (nI c) = nI c := by decide +kernel
/-- a number of an int: out on one side, or a small natural number -/
theorem tri (y : Int32) {M : Nat} (hM : M < 2 ^ 31) : y.toInt < 0 ∨ (M : Int) < y.toInt ∨ ∃ c : Nat, c ≤ M ∧ y = nI c := by
  by_cases h0 : y.toInt < 0
  · exact Or.inl h0
  · by_cases h1 : (M : Int) < y.toInt
    · exact Or.inr (Or.inl h1)
    · refine Or.inr (Or.inr ⟨y.toInt.toNat, by omega, ?_⟩)
      rw [fa_eq, nI_toInt (by omega)]
      omega
theorem core_write (y len ts th : Int32) (letters text : Nat → Int32) (h : RelT len letters ts text) : ∃ (r len' : Int32) (letters' : Nat → Int32) (ts' : Int32) (text' : Nat → Int32), f_X5_write y len letters = some (r, len', letters') ∧ f_X6_write y th ts text = some (r, 0, ts', text') ∧ RelT len' letters' ts' text' := by
  obtain ⟨q, hq, rfl, rfl, hc⟩ := h
  unfold f_X5_write f_X6_write f_X4_append
  have l255 : (255 : Int32).toInt = 255 := by decide
  have l255L : (255 : Int64).toInt = 255 := by decide
  rcases tri y (M := 255) (by decide) with h0 | h0 | ⟨c, hc2, rfl⟩
  · refine ⟨-2, nI q, letters, nI q, text, ?_, ?_, q, hq, rfl, rfl, hc⟩
    · rw [if_pos (by rw [fa_lt, lit_0]; exact h0)]
    · rw [e_in, if_neg (fun h => by rw [fa_le64, fa_le64, Int32.toInt_toInt64, lit_0L, l255L] at h; omega)]
      rfl
  · refine ⟨-2, nI q, letters, nI q, text, ?_, ?_, q, hq, rfl, rfl, hc⟩
    · rw [if_neg (by rw [fa_lt, lit_0]; omega), if_neg (by rw [fa_le, l255]; omega)]
    · rw [e_in, if_neg (fun h => by rw [fa_le64, fa_le64, Int32.toInt_toInt64, lit_0L, l255L] at h; omega)]
      rfl
  · have e1 := chr_nI c (by omega)
    have g1 : ¬ nI c < (0 : Int32) := nI_pos (by omega)
    have g2 : nI c ≤ (255 : Int32) := show nI c ≤ nI 255 from nI_le hc2 (by omega)
    have g3 : ((0 : Int64) ≤ (nI c).toInt64 ∧ (nI c).toInt64 ≤ (255 : Int64)) := by
      rw [fa_le64, fa_le64, Int32.toInt_toInt64, lit_0L, l255L, nI_toInt (by omega)]; omega
    rw [e_in, if_pos g3, if_neg g1, if_pos g2, e1.1, e1.2]
    by_cases hf : q = 70
    · subst hf
      exact ⟨-4, nI 70, letters, nI 70, text, rfl, rfl, 70, hq, rfl, rfl, hc⟩
    · have g4 : ¬ nI q < (0 : Int32) := nI_pos (by omega)
      have g5 : nI q < (70 : Int32) := show nI q < nI 70 from nI_lt (by omega) (by omega)
      have g7 : nI q + (1 : Int32) = nI (q + 1) := nI_1 q
      have g6 : ¬ nI q = (70 : Int32) := fun h => hf ((nI_eq (b := 70) (by omega) (by omega)).mp h)
      refine ⟨nI (q + 1), nI (q + 1), upd letters q (nI c), nI (q + 1), upd text q (nI c), ?_, ?_, q + 1, by omega, rfl, rfl, ?_⟩
      · rw [if_neg g4, if_pos g5, chk_nI (by omega) (by omega), cl_nI (by omega), g7]
        rfl
      · show (if nI q = (70 : Int32) then _ else _) = _
        rw [if_neg g6, chk_nI (by omega) (by omega), cl_nI (by omega), g7]
        rfl
      · intro i hi
        by_cases e : i = q
        · subst e; exact ⟨c, hc2, pk_us, pk_us⟩
        · obtain ⟨c', h1, h2, h3⟩ := hc i (by omega)
          exact ⟨c', h1, by rw [pk_un e]; exact h2, by rw [pk_un e]; exact h3⟩
theorem core_wipe (len ts th : Int32) (letters text : Nat → Int32) (h : RelT len letters ts text) : ∃ (r len' ts' : Int32), f_X5_wipe len = some (r, len') ∧ f_X6_wipe th ts = some (r, 0, ts') ∧ RelT len' letters ts' text := by
  obtain ⟨q, hq, rfl, rfl, hc⟩ := h
  exact ⟨nI q, 0, 0, rfl, rfl, 0, by omega, rfl, rfl, fun i hi => absurd hi (Nat.not_lt_zero i)⟩
theorem core_seed (y s1 s2 : Int64) (th : Int32) (h : s1 = s2) : ∃ r, f_X5_seed y s1 = some (r, y) ∧ f_X6_seed y th s2 = some (r, 0, y) := ⟨s1, rfl, by rw [h]; rfl⟩
theorem core_unsee (size seen th : Int32) (rows sS sO sV sW : Nat → Int32) (h : RelS size rows seen sS sO sV sW) : ∃ r size' seen' : Int32, f_X5_unsee size = some (r, size') ∧ f_X6_unsee th seen = some (r, 0, seen') ∧ RelS size' rows seen' sS sO sV sW := by
  obtain ⟨q, hq, rfl, rfl, hc⟩ := h
  exact ⟨nI q, 0, 0, rfl, rfl, 0, by omega, rfl, rfl, fun i hi => absurd hi (Nat.not_lt_zero i)⟩
