/-! ===== what is reached is closed ===== -/
def popc (x : Nat) : Nat := x % 2 + x / 2 % 2 + x / 4 % 2 + x / 8 % 2 + x / 16 % 2 + x / 32 % 2 + x / 64 % 2 + x / 128 % 2
theorem popc_6 {x : Nat} (h : x < 64) : popc x ≤ 6 := by unfold popc; omega
theorem popc_up : ∀ s, s < 64 → ∀ t, t < 64 → s ||| t = t → s ≠ t → popc s < popc t := by decide +kernel
theorem stp_sup (g : Nat → Nat → Nat) (S set l : Nat) : set ||| stp g S set l = stp g S set l := by
  unfold stp
  split
  · rw [← Nat.or_assoc, Nat.or_self]
  · exact Nat.or_self set
theorem sup_trans {a b c : Nat} (h1 : a ||| b = b) (h2 : b ||| c = c) : a ||| c = c := by rw [← h2, ← Nat.or_assoc, h1]
theorem sup_anti {a b : Nat} (h1 : a ||| b = b) (h2 : b ||| a = a) : a = b := by rw [← h2, Nat.or_comm, h1]
theorem pasF_sup (g : Nat → Nat → Nat) (S : Nat) : ∀ (k l set : Nat), set ||| pasF g S k l set = pasF g S k l set
  | 0, _, set => Nat.or_self set
  | k + 1, l, set => sup_trans (stp_sup g S set l) (pasF_sup g S k (l + 1) (stp g S set l))
theorem pasF_fix {g : Nat → Nat → Nat} {S : Nat} : ∀ (k l set : Nat), pasF g S k l set = set → ∀ i, i < k → stp g S set (l + i) = set
  | 0, _, _, _, i, hi => absurd hi (Nat.not_lt_zero i)
  | k + 1, l, set, h, i, hi => by
    have h' : pasF g S k (l + 1) (stp g S set l) = set := h
    have h1 := pasF_sup g S k (l + 1) (stp g S set l)
    rw [h'] at h1
    have e : stp g S set l = set := sup_anti h1 (stp_sup g S set l)
    cases i with
    | zero => exact e
    | succ i =>
      rw [e] at h'
      have := pasF_fix k (l + 1) set h' i (by omega)
      rw [show l + (i + 1) = l + 1 + i by omega]; exact this
theorem rch_pc {n : Nat} {g : Nat → Nat → Nat} (hw : LW n g) {S : Nat} (hS : S < 2 ^ n) : ∀ (k set : Nat), set < 64 → pasF g S n 0 (rch g S n k set) = rch g S n k set ∨ popc set + k ≤ popc (rch g S n k set)
  | 0, set, hs => Or.inr (Nat.le_refl _)
  | k + 1, set, hs => by
    have hp := pasF_lt hw hS n 0 set hs
    show pasF g S n 0 (rch g S n k (pasF g S n 0 set)) = rch g S n k (pasF g S n 0 set) ∨ _ ≤ popc (rch g S n k (pasF g S n 0 set))
    by_cases c : pasF g S n 0 set = set
    · left; rw [c, rch_fix c]; exact c
    · rcases rch_pc hw hS k (pasF g S n 0 set) hp with h | h
      · exact Or.inl h
      · have := popc_up set hs _ hp (pasF_sup g S n 0 set) (fun e => c e.symm)
        right; omega
theorem rch_closed {n : Nat} {g : Nat → Nat → Nat} (hw : LW n g) {S : Nat} (hS : S < 2 ^ n) {set : Nat} (hs : set < 64) (h1 : 1 ≤ popc set) : pasF g S n 0 (rch g S n 6 set) = rch g S n 6 set := by
  rcases rch_pc hw hS 6 set hs with h | h
  · exact h
  · have := popc_6 (rch_lt hw hS 6 set hs); omega
theorem rch_sup {n : Nat} {g : Nat → Nat → Nat} {S : Nat} : ∀ (k set : Nat), set ||| rch g S n k set = rch g S n k set
  | 0, set => Nat.or_self set
  | k + 1, set => sup_trans (pasF_sup g S n 0 set) (rch_sup k _)
/-- both ends of a leg of S are in a closed set, or none -/
theorem tie_of {n : Nat} {g : Nat → Nat → Nat} {S K l : Nat} (hl : l < n) (hb : S.testBit l = true) (h : pasF g S n 0 K = K) : K.testBit (g l 4) = K.testBit (g l 5) := by
  have e := pasF_fix n 0 K h l hl
  rw [Nat.zero_add] at e
  unfold stp at e
  have hpa := pr_and g l K
  by_cases c : pr g l &&& K ≠ 0
  · rw [if_pos ⟨hb, c⟩] at e
    have b : ∀ i, (pr g l).testBit i = true → K.testBit i = true := fun i hi => by rw [← e, Nat.testBit_or, hi, Bool.or_true]
    rw [b (g l 4) (by unfold pr; rw [Nat.testBit_or, Nat.testBit_two_pow_self]; rfl), b (g l 5) (by unfold pr; rw [Nat.testBit_or, Nat.testBit_two_pow_self, Bool.or_true])]
  · cases b4 : K.testBit (g l 4) with
    | true => exact absurd (hpa.mpr (Or.inl b4)) c
    | false =>
      cases b5 : K.testBit (g l 5) with
      | true => exact absurd (hpa.mpr (Or.inr b5)) c
      | false => rfl
/-- the stations that legs of S connect with the entrance -/
def con (g : Nat → Nat → Nat) (n S : Nat) : Nat := rch g S n 6 1
theorem con_lt {n : Nat} {g : Nat → Nat → Nat} (hw : LW n g) {S : Nat} (hS : S < 2 ^ n) : con g n S < 64 := rch_lt hw hS 6 1 (by omega)
theorem con_tie {n : Nat} {g : Nat → Nat → Nat} (hw : LW n g) {S l : Nat} (hS : S < 2 ^ n) (hl : l < n) (hb : S.testBit l = true) : (con g n S).testBit (g l 4) = (con g n S).testBit (g l 5) := tie_of hl hb (rch_closed hw hS (by omega) (by decide))
theorem con_0 {n : Nat} {g : Nat → Nat → Nat} {S : Nat} : (con g n S).testBit 0 = true := by
  have := rch_sup (g := g) (S := S) (n := n) 6 1
  unfold con
  rw [← this, Nat.testBit_or]; rfl
def tch (g : Nat → Nat → Nat) (K l : Nat) : Bool := K.testBit (g l 4) || K.testBit (g l 5)
theorem tch_pr (g : Nat → Nat → Nat) (K l : Nat) : (pr g l &&& K ≠ 0) ↔ tch g K l = true := by
  rw [pr_and]; unfold tch; rw [Bool.or_eq_true]
theorem con_tch {n : Nat} {g : Nat → Nat → Nat} (hw : LW n g) {S l : Nat} (hS : S < 2 ^ n) (hl : l < n) (hb : S.testBit l = true) : tch g (con g n S) l = (con g n S).testBit (g l 4) := by
  unfold tch; rw [con_tie hw hS hl hb, Bool.or_self]
/-! ===== the class's touching and loops ===== -/
theorem touching_in {n F : Nat} {g : Nat → Nat → Nat} {K : Nat} {rows : Nat → Int32} (hg : WG n g) (hr : RR n g rows) (hK : K < 64) : ∀ (k l fuel : Nat), k + l = n → k < fuel → f_X0_touching_L4 F (nI n) rows fuel (nI K) (nI (msk (tch g K) l)) (nI l) = some (nI (msk (tch g K) n)) := by
  intro k
  induction k with
  | zero =>
    intro l fuel hk hf
    have e : l = n := by omega
    subst e
    obtain ⟨f, rfl⟩ : ∃ f, fuel = f + 1 := ⟨fuel - 1, by omega⟩
    show f_X0_touching_B4 F (nI l) rows _ _ _ _ = _
    unfold f_X0_touching_B4
    rw [if_pos (nI_le (Nat.le_refl _) (by have := hg.1; omega))]
  | succ k ih =>
    intro l fuel hk hf
    have hn := hg.1
    have hl : l < n := by omega
    obtain ⟨f, rfl⟩ : ∃ f, fuel = f + 1 := ⟨fuel - 1, by omega⟩
    have ih := ih (l + 1) f (by omega) (by omega)
    show f_X0_touching_B4 F (nI n) rows (f_X0_touching_L4 F (nI n) rows f) _ _ _ = _
    unfold f_X0_touching_B4 f_X0_touching_J30
    have hp := pr_lt hg.lw hl
    have hlt : pr g l &&& K < 64 := Nat.lt_of_le_of_lt Nat.and_le_right hK
    rw [if_neg (nI_ge hl (by omega)), g_pair hr hn hl]
    simp only [bnd1_some', nmd, nI_1, fa_and]
    rw [shl_nI (by omega), fa_or]
    by_cases c : pr g l &&& K = 0
    · rw [if_pos (by rw [c]; rfl)]
      have e3 : msk (tch g K) (l + 1) = msk (tch g K) l := msk_no (by
        cases ht : tch g K l with
        | false => rfl
        | true => exact absurd c ((tch_pr g K l).mpr ht))
      rw [← e3]; exact ih
    · rw [if_neg (show ¬ nI (pr g l &&& K) = (0 : Int32) from fun h => c ((nI_eq (b := 0) (by omega) (by omega)).mp h))]
      rw [msk_or ((tch_pr g K l).mp c)]; exact ih
theorem e_touching {n F : Nat} {g : Nat → Nat → Nat} {K : Nat} {rows : Nat → Int32} (hF : 8 < F) (hg : WG n g) (hr : RR n g rows) (hK : K < 64) : f_X0_touching F (nI K) (nI n) rows = some (nI (msk (tch g K) n)) := touching_in hg hr hK n 0 F (by omega) (by have := hg.1; omega)
theorem e_connected {n F : Nat} {g : Nat → Nat → Nat} {rows : Nat → Int32} (hF : 8 < F) (hg : WG n g) (hr : RR n g rows) : f_X0_connected F (nI n) rows = some (nI (con g n (2 ^ n - 1))) := by
  unfold f_X0_connected
  have h2 := Nat.one_le_two_pow (n := n)
  rw [e_all0 hg.1]
  simp only [bnd1_some']
  rw [e_spread1 hF hg (by omega) hr]
  rfl
def cnt (P : Nat → Bool) : Nat → Nat
  | 0 => 0
  | n + 1 => cnt P n + (if P n = true then 1 else 0)
theorem popc_add : ∀ n, n < 8 → ∀ a, a < 2 ^ n → popc (a + 2 ^ n) = popc a + 1 := by decide +kernel
theorem popc_msk (P : Nat → Bool) : ∀ n, n ≤ 8 → popc (msk P n) = cnt P n
  | 0, _ => by unfold msk cnt; decide
  | n + 1, h => by
    have ih := popc_msk P n (by omega)
    show popc (msk P n + _) = cnt P n + _
    by_cases c : P n = true
    · rw [if_pos c, if_pos c, popc_add n (by omega) _ (msk_lt P n), ih]
    · rw [if_neg c, if_neg c, Nat.add_zero, Nat.add_zero, ih]
theorem e_bitc : ∀ x, x < 256 → f_J6_bitCount_0f7a4 (nI x) = some (nI (popc x)) := by decide +kernel
theorem e_ones' : ∀ x, x < 256 → f_X6_ones 1000 (nI x) = some (nI (popc x)) := by decide +kernel
theorem e_ones {F x : Nat} (hF : F = 1000) (h : x < 256) : f_X6_ones F (nI x) = some (nI (popc x)) := by rw [hF]; exact e_ones' x h
/-- the number of loops -/
def lps (g : Nat → Nat → Nat) (n : Nat) : Int32 := nI (cnt (tch g (con g n (2 ^ n - 1))) n) - nI (popc (con g n (2 ^ n - 1))) + 1
theorem e_loops0 {n F : Nat} {g : Nat → Nat → Nat} {rows : Nat → Int32} (hF : 8 < F) (hg : WG n g) (hr : RR n g rows) : f_X0_loops F (nI n) rows = some (lps g n) := by
  unfold f_X0_loops
  have hp2 : 2 ^ n ≤ 256 := p2_256 hg.1
  have h2 := Nat.one_le_two_pow (n := n)
  have hK := con_lt hg.lw (show 2 ^ n - 1 < 2 ^ n by omega)
  have hm := msk_lt (tch g (con g n (2 ^ n - 1))) n
  rw [e_connected hF hg hr]
  simp only [bnd1_some']
  rw [e_touching hF hg hr hK, e_bitc _ (by omega)]
  simp only [bnd1_some']
  rw [e_bitc _ (by omega), popc_msk _ _ hg.1]
  rfl
theorem all_in {n l : Nat} (h : l < n) : (2 ^ n - 1).testBit l = true := by rw [all_bit]; simp [h]
theorem e_tiedLeg {n : Nat} {g : Nat → Nat → Nat} {K l : Nat} {page : Nat → Int32} (hg : WG n g) (hp : PP n g page) (hK : K < 64) (hl : l < n) : f_X6_isTiedLeg (nI l) (nI K) page = some (if K.testBit (g l 4) = true then 1 else 0) := by
  have hn := hg.1
  have h4 := (hg.lw.2 l hl).1
  have o4 : f_X6_of (nI l) (4 : Int32) page = some (nI (g l 4)) := by rw [← hp.2.2 l hl 4 (by omega)]; exact e_of (j := 4) page (by omega) (by omega)
  unfold f_X6_isTiedLeg
  rw [o4]
  simp only [bnd1_some']
  rw [e_has6 (by omega) (by omega)]
  simp only [bnd1_some']
  cases K.testBit (g l 4) <;> rfl
theorem loops6_in {n F : Nat} {g : Nat → Nat → Nat} {K : Nat} {page : Nat → Int32} (hg : WG n g) (hp : PP n g page) (hK : K < 64) (c0 : Int32) : ∀ (k l fuel : Nat), k + l = n → k < fuel → f_X6_loops_L20 F page fuel (nI K) (c0 + nI (cnt (fun l => K.testBit (g l 4)) l)) (nI l) = some (c0 + nI (cnt (fun l => K.testBit (g l 4)) n)) := by
  intro k
  induction k with
  | zero =>
    intro l fuel hk hf
    have e : l = n := by omega
    subst e
    obtain ⟨f, rfl⟩ : ∃ f, fuel = f + 1 := ⟨fuel - 1, by omega⟩
    show f_X6_loops_B20 F page _ _ _ _ = _
    unfold f_X6_loops_B20
    rw [chk_0 (by omega) (by omega), show Int32.toNatClampNeg (0 : Int32) = 0 from rfl, hp.1, if_pos (nI_le (Nat.le_refl _) (by have := hg.1; omega))]
  | succ k ih =>
    intro l fuel hk hf
    have hn := hg.1
    have hl : l < n := by omega
    obtain ⟨f, rfl⟩ : ∃ f, fuel = f + 1 := ⟨fuel - 1, by omega⟩
    have ih := ih (l + 1) f (by omega) (by omega)
    show f_X6_loops_B20 F page (f_X6_loops_L20 F page f) _ _ _ = _
    unfold f_X6_loops_B20 f_X6_loops_J45
    rw [chk_0 (by omega) (by omega), show Int32.toNatClampNeg (0 : Int32) = 0 from rfl, hp.1, if_neg (nI_ge hl (by omega)), e_tiedLeg hg hp hK hl]
    simp only [bnd1_some', nmd, nI_1, i01]
    cases hb : K.testBit (g l 4) with
    | false =>
      have e : cnt (fun l => K.testBit (g l 4)) (l + 1) = cnt (fun l => K.testBit (g l 4)) l := by show _ + _ = _; simp [hb]
      rw [if_pos rfl, Int32.add_zero, ← e]; exact ih
    | true =>
      have e : cnt (fun l => K.testBit (g l 4)) (l + 1) = cnt (fun l => K.testBit (g l 4)) l + 1 := by show _ + _ = _; simp [hb]
      rw [if_neg (by decide), Int32.add_assoc, nI_1, ← e]; exact ih
theorem cnt_cong {P Q : Nat → Bool} : ∀ {n : Nat}, (∀ l, l < n → P l = Q l) → cnt P n = cnt Q n
  | 0, _ => rfl
  | n + 1, h => by
    show cnt P n + _ = cnt Q n + _
    rw [cnt_cong (fun l hl => h l (by omega)), h n (by omega)]
theorem e_loops6 {n F : Nat} {g : Nat → Nat → Nat} {page : Nat → Int32} (hF : F = 1000) (hg : WG n g) (hp : PP n g page) : f_X6_loops F page = some (lps g n) := by
  unfold f_X6_loops
  have hp2 : 2 ^ n ≤ 256 := p2_256 hg.1
  have hn := hg.1
  have h2 := Nat.one_le_two_pow (n := n)
  have hK := con_lt hg.lw (show 2 ^ n - 1 < 2 ^ n by omega)
  rw [e_all6 hg.1 hp.1]
  simp only [bnd1_some']
  rw [e_tied (by omega) hg (by omega) hp, show rch g (2 ^ n - 1) n 6 1 = con g n (2 ^ n - 1) from rfl]
  simp only [bnd1_some']
  rw [e_ones hF (by omega)]
  simp only [bnd1_some', nmd]
  have := loops6_in (F := F) hg hp hK ((1 : Int32) - nI (popc (con g n (2 ^ n - 1)))) n 0 F (by omega) (by omega)
  rw [show cnt (fun l => (con g n (2 ^ n - 1)).testBit (g l 4)) 0 = 0 from rfl, show nI 0 = (0 : Int32) from rfl, Int32.add_zero] at this
  rw [this]
  unfold lps
  rw [cnt_cong (P := tch g (con g n (2 ^ n - 1))) (fun l hl => con_tch hg.lw (show 2 ^ n - 1 < 2 ^ n by omega) hl (all_in hl))]
  congr 1
  grind
