/-! ===== measure, keep, again ===== -/
def w7 (t b s w f o : Nat) : Nat → Nat := fun j => if j = 0 then t else if j = 1 then b else if j = 2 then s else if j = 3 then w else if j = 4 then f else if j = 5 then o else 0
theorem e_add {n t b s w f o : Nat} {g : Nat → Nat → Nat} {rows : Nat → Int32} (hr : RR n g rows) (hn : n < 8) (hf : f < 6) (ho : o < 6) : ∃ R', f_X0_add (nI f) (nI o) (nI t) (nI b) (nI s) (nI w) (nI n) rows = some (nI (n + 1), R') ∧ RR (n + 1) (gadd g n (w7 t b s w f o)) R' := by
  have p0 : ∀ x R, f_X0_put (nI n) (0 : Int32) x R = some (upd R (8 * n + 0) x) := fun x R => e_put (j := 0) R x hn (by omega)
  have p1 : ∀ x R, f_X0_put (nI n) (1 : Int32) x R = some (upd R (8 * n + 1) x) := fun x R => e_put (j := 1) R x hn (by omega)
  have p2 : ∀ x R, f_X0_put (nI n) (2 : Int32) x R = some (upd R (8 * n + 2) x) := fun x R => e_put (j := 2) R x hn (by omega)
  have p3 : ∀ x R, f_X0_put (nI n) (3 : Int32) x R = some (upd R (8 * n + 3) x) := fun x R => e_put (j := 3) R x hn (by omega)
  have p4 : ∀ x R, f_X0_put (nI n) (4 : Int32) x R = some (upd R (8 * n + 4) x) := fun x R => e_put (j := 4) R x hn (by omega)
  have p5 : ∀ x R, f_X0_put (nI n) (5 : Int32) x R = some (upd R (8 * n + 5) x) := fun x R => e_put (j := 5) R x hn (by omega)
  have p6 : ∀ x R, f_X0_put (nI n) (6 : Int32) x R = some (upd R (8 * n + 6) x) := fun x R => e_put (j := 6) R x hn (by omega)
  have p7 : ∀ x R, f_X0_put (nI n) (7 : Int32) x R = some (upd R (8 * n + 7) x) := fun x R => e_put (j := 7) R x hn (by omega)
  unfold f_X0_add
  rw [if_neg (nI_pos (by omega)), if_pos (show nI n < (8 : Int32) from nI_lt (b := 8) (by omega) (by omega)), shl_nI (by omega), shl_nI (by omega), fa_or]
  simp only [p0, p1, p2, p3, p4, p5, p6, p7, bnd1_some', nmd, nI_1]
  refine ⟨_, rfl, fun l hl => ?_⟩
  by_cases e : l = n
  · subst e
    constructor
    · intro j hj
      have eg : gadd g l (w7 t b s w f o) l j = w7 t b s w f o j := if_pos rfl
      rw [eg]
      have h7 : j = 0 ∨ j = 1 ∨ j = 2 ∨ j = 3 ∨ j = 4 ∨ j = 5 ∨ j = 6 := by omega
      rcases h7 with rfl | rfl | rfl | rfl | rfl | rfl | rfl
      · rw [pk_un (by omega), pk_un (by omega), pk_un (by omega), pk_un (by omega), pk_un (by omega), pk_un (by omega), pk_un (by omega), pk_us]; rfl
      · rw [pk_un (by omega), pk_un (by omega), pk_un (by omega), pk_un (by omega), pk_un (by omega), pk_un (by omega), pk_us]; rfl
      · rw [pk_un (by omega), pk_un (by omega), pk_un (by omega), pk_un (by omega), pk_un (by omega), pk_us]; rfl
      · rw [pk_un (by omega), pk_un (by omega), pk_un (by omega), pk_un (by omega), pk_us]; rfl
      · rw [pk_un (by omega), pk_un (by omega), pk_un (by omega), pk_us]; rfl
      · rw [pk_un (by omega), pk_un (by omega), pk_us]; rfl
      · rw [pk_un (by omega), pk_us]; rfl
    · have e4 : gadd g l (w7 t b s w f o) l 4 = f := if_pos rfl
      have e5 : gadd g l (w7 t b s w f o) l 5 = o := if_pos rfl
      unfold pr
      rw [pk_us, e4, e5]
  · have eg : ∀ j, gadd g n (w7 t b s w f o) l j = g l j := fun j => if_neg e
    constructor
    · intro j hj
      rw [eg, pk_un (by omega), pk_un (by omega), pk_un (by omega), pk_un (by omega), pk_un (by omega), pk_un (by omega), pk_un (by omega), pk_un (by omega)]
      exact (hr l (by omega)).1 j hj
    · unfold pr
      rw [eg, eg, pk_un (by omega), pk_un (by omega), pk_un (by omega), pk_un (by omega), pk_un (by omega), pk_un (by omega), pk_un (by omega), pk_un (by omega)]
      exact (hr l (by omega)).2
theorem PP_add {n t b s w f o : Nat} {g : Nat → Nat → Nat} {page P' : Nat → Int32} (hp : PP n g page) (h0 : P' 0 = nI (n + 1)) (h1 : P' 1 = nI (fm g n)) (hq : ∀ l, l < n → ∀ j, j < 6 → P' (2 + 6 * l + j) = page (2 + 6 * l + j)) (hn : P' (2 + 6 * n + 0) = nI t ∧ P' (2 + 6 * n + 1) = nI b ∧ P' (2 + 6 * n + 2) = nI s ∧ P' (2 + 6 * n + 3) = nI w ∧ P' (2 + 6 * n + 4) = nI f ∧ P' (2 + 6 * n + 5) = nI o) : PP (n + 1) (gadd g n (w7 t b s w f o)) P' := by
  refine ⟨h0, ?_, fun l hl j hj => ?_⟩
  · rw [h1]
    congr 1
    show fm g n = fm (gadd g n (w7 t b s w f o)) n + 2 ^ n * gadd g n (w7 t b s w f o) n 6
    have e6 : gadd g n (w7 t b s w f o) n 6 = 0 := if_pos rfl
    rw [e6, Nat.mul_zero, Nat.add_zero]
    exact fm_cong (fun l hl => by unfold gadd; rw [if_neg (by omega)])
  · by_cases e : l = n
    · subst e
      have eg : gadd g l (w7 t b s w f o) l j = w7 t b s w f o j := if_pos rfl
      rw [eg]
      have h7 : j = 0 ∨ j = 1 ∨ j = 2 ∨ j = 3 ∨ j = 4 ∨ j = 5 := by omega
      rcases h7 with rfl | rfl | rfl | rfl | rfl | rfl
      · exact hn.1
      · exact hn.2.1
      · exact hn.2.2.1
      · exact hn.2.2.2.1
      · exact hn.2.2.2.2.1
      · exact hn.2.2.2.2.2
    · have eg : gadd g n (w7 t b s w f o) l j = g l j := if_neg e
      rw [eg, hq l (by omega) j hj]
      exact hp.2.2 l (by omega) j hj
theorem WF_add {n N t b s w f o : Nat} {g : Nat → Nat → Nat} (hw : WF n N g) (hn : n < 8) (h1 : 1 ≤ t) (h2 : t ≤ 99) (h3 : b ≤ 11) (h4 : s ≤ 4) (h5 : 1 ≤ w) (h6 : w ≤ 9) (h7 : f < N) (h8 : o < N) (h9 : f ≠ o) : WF (n + 1) N (gadd g n (w7 t b s w f o)) := by
  refine ⟨by omega, hw.2.1, hw.2.2.1, fun l hl => ?_⟩
  by_cases e : l = n
  · subst e
    have eg : ∀ j, gadd g l (w7 t b s w f o) l j = w7 t b s w f o j := fun j => if_pos rfl
    simp only [eg]
    exact ⟨h1, h2, h3, h4, h5, h6, h7, h8, h9, Nat.zero_le 1⟩
  · have eg : ∀ j, gadd g n (w7 t b s w f o) l j = g l j := fun j => if_neg e
    simp only [eg]
    exact hw.2.2.2 l (by omega)
theorem meas_page {n t b s w f o : Nat} {g : Nat → Nat → Nat} {page : Nat → Int32} {α : Type} (k : Int32 → (Nat → Int32) → Option α) (hp : PP n g page) (h6 : ∀ l, l < n → g l 6 ≤ 1) (hn : n < 8) : ∃ P', (chk 0 50 (nmd ((2 : Int32) + ((6 : Int32) * (page (Int32.toNatClampNeg (0 : Int32))))) (fun t26 => chk (t26 + (0 : Int32)) 50 (chk (t26 + (1 : Int32)) 50 (chk (t26 + (2 : Int32)) 50 (chk (t26 + (3 : Int32)) 50 (chk (t26 + (4 : Int32)) 50 (chk (t26 + (5 : Int32)) 50 (chk 1 50 (chk 0 50 (nmd (((upd (upd (upd (upd (upd (upd page (Int32.toNatClampNeg (t26 + (0 : Int32))) (nI t)) (Int32.toNatClampNeg (t26 + (1 : Int32))) (nI b)) (Int32.toNatClampNeg (t26 + (2 : Int32))) (nI s)) (Int32.toNatClampNeg (t26 + (3 : Int32))) (nI w)) (Int32.toNatClampNeg (t26 + (4 : Int32))) (nI f)) (Int32.toNatClampNeg (t26 + (5 : Int32))) (nI o)) (Int32.toNatClampNeg (1 : Int32))) &&& ((shlI (1 : Int32) ((upd (upd (upd (upd (upd (upd page (Int32.toNatClampNeg (t26 + (0 : Int32))) (nI t)) (Int32.toNatClampNeg (t26 + (1 : Int32))) (nI b)) (Int32.toNatClampNeg (t26 + (2 : Int32))) (nI s)) (Int32.toNatClampNeg (t26 + (3 : Int32))) (nI w)) (Int32.toNatClampNeg (t26 + (4 : Int32))) (nI f)) (Int32.toNatClampNeg (t26 + (5 : Int32))) (nI o)) (Int32.toNatClampNeg (0 : Int32)))) ^^^ (-1 : Int32))) (fun t35 => chk 1 50 (chk 0 50 (nmd (((upd (upd (upd (upd (upd (upd (upd page (Int32.toNatClampNeg (t26 + (0 : Int32))) (nI t)) (Int32.toNatClampNeg (t26 + (1 : Int32))) (nI b)) (Int32.toNatClampNeg (t26 + (2 : Int32))) (nI s)) (Int32.toNatClampNeg (t26 + (3 : Int32))) (nI w)) (Int32.toNatClampNeg (t26 + (4 : Int32))) (nI f)) (Int32.toNatClampNeg (t26 + (5 : Int32))) (nI o)) (Int32.toNatClampNeg (1 : Int32)) t35) (Int32.toNatClampNeg (0 : Int32))) + (1 : Int32)) (fun t38 => chk 0 50 (chk 0 50 (k ((upd (upd (upd (upd (upd (upd (upd (upd page (Int32.toNatClampNeg (t26 + (0 : Int32))) (nI t)) (Int32.toNatClampNeg (t26 + (1 : Int32))) (nI b)) (Int32.toNatClampNeg (t26 + (2 : Int32))) (nI s)) (Int32.toNatClampNeg (t26 + (3 : Int32))) (nI w)) (Int32.toNatClampNeg (t26 + (4 : Int32))) (nI f)) (Int32.toNatClampNeg (t26 + (5 : Int32))) (nI o)) (Int32.toNatClampNeg (1 : Int32)) t35) (Int32.toNatClampNeg (0 : Int32)) t38) (Int32.toNatClampNeg (0 : Int32))) (upd (upd (upd (upd (upd (upd (upd (upd page (Int32.toNatClampNeg (t26 + (0 : Int32))) (nI t)) (Int32.toNatClampNeg (t26 + (1 : Int32))) (nI b)) (Int32.toNatClampNeg (t26 + (2 : Int32))) (nI s)) (Int32.toNatClampNeg (t26 + (3 : Int32))) (nI w)) (Int32.toNatClampNeg (t26 + (4 : Int32))) (nI f)) (Int32.toNatClampNeg (t26 + (5 : Int32))) (nI o)) (Int32.toNatClampNeg (1 : Int32)) t35) (Int32.toNatClampNeg (0 : Int32)) t38)))))))))))))))))) = k (nI (n + 1)) P' ∧ PP (n + 1) (gadd g n (w7 t b s w f o)) P' := by
  have hp2 : 2 ^ n ≤ 256 := p2_256 (by omega)
  have hM := fm_lt h6
  have c0 : ∀ {β : Type} (x : Option β), chk (0 : Int32) 50 x = x := fun x => chk_0 (by omega) (by omega)
  have c1 : ∀ {β : Type} (x : Option β), chk (1 : Int32) 50 x = x := fun x => chk_nI (i := 1) (by omega) (by omega)
  have eb : (2 : Int32) + (6 : Int32) * nI n = nI (2 + 6 * n) := by rw [fa_lit 2, fa_lit 6, pk_mul, nI_add]
  have a0 : nI (2 + 6 * n) + (0 : Int32) = nI (2 + 6 * n + 0) := by rw [fa_lit 0, nI_add]
  have a1 : nI (2 + 6 * n) + (1 : Int32) = nI (2 + 6 * n + 1) := by rw [fa_lit 1, nI_add]
  have a2 : nI (2 + 6 * n) + (2 : Int32) = nI (2 + 6 * n + 2) := by rw [fa_lit 2, nI_add]
  have a3 : nI (2 + 6 * n) + (3 : Int32) = nI (2 + 6 * n + 3) := by rw [fa_lit 3, nI_add]
  have a4 : nI (2 + 6 * n) + (4 : Int32) = nI (2 + 6 * n + 4) := by rw [fa_lit 4, nI_add]
  have a5 : nI (2 + 6 * n) + (5 : Int32) = nI (2 + 6 * n + 5) := by rw [fa_lit 5, nI_add]
  have k0 : Int32.toNatClampNeg (0 : Int32) = 0 := rfl
  have k1 : Int32.toNatClampNeg (1 : Int32) = 1 := rfl
  have l0 : Int32.toNatClampNeg (nI (2 + 6 * n + 0)) = 2 + 6 * n + 0 := cl_nI (by omega)
  have l1 : Int32.toNatClampNeg (nI (2 + 6 * n + 1)) = 2 + 6 * n + 1 := cl_nI (by omega)
  have l2 : Int32.toNatClampNeg (nI (2 + 6 * n + 2)) = 2 + 6 * n + 2 := cl_nI (by omega)
  have l3 : Int32.toNatClampNeg (nI (2 + 6 * n + 3)) = 2 + 6 * n + 3 := cl_nI (by omega)
  have l4 : Int32.toNatClampNeg (nI (2 + 6 * n + 4)) = 2 + 6 * n + 4 := cl_nI (by omega)
  have l5 : Int32.toNatClampNeg (nI (2 + 6 * n + 5)) = 2 + 6 * n + 5 := cl_nI (by omega)
  have d0 : ∀ {β : Type} (x : Option β), chk (nI (2 + 6 * n + 0)) 50 x = x := fun x => chk_nI (by omega) (by omega)
  have d1 : ∀ {β : Type} (x : Option β), chk (nI (2 + 6 * n + 1)) 50 x = x := fun x => chk_nI (by omega) (by omega)
  have d2 : ∀ {β : Type} (x : Option β), chk (nI (2 + 6 * n + 2)) 50 x = x := fun x => chk_nI (by omega) (by omega)
  have d3 : ∀ {β : Type} (x : Option β), chk (nI (2 + 6 * n + 3)) 50 x = x := fun x => chk_nI (by omega) (by omega)
  have d4 : ∀ {β : Type} (x : Option β), chk (nI (2 + 6 * n + 4)) 50 x = x := fun x => chk_nI (by omega) (by omega)
  have d5 : ∀ {β : Type} (x : Option β), chk (nI (2 + 6 * n + 5)) 50 x = x := fun x => chk_nI (by omega) (by omega)
  simp only [nmd, c0, c1, k0, k1, hp.1, eb, a0, a1, a2, a3, a4, a5, l0, l1, l2, l3, l4, l5, d0, d1, d2, d3, d4, d5]
  generalize hQ : upd (upd (upd (upd (upd (upd page (2 + 6 * n + 0) (nI t)) (2 + 6 * n + 1) (nI b)) (2 + 6 * n + 2) (nI s)) (2 + 6 * n + 3) (nI w)) (2 + 6 * n + 4) (nI f)) (2 + 6 * n + 5) (nI o) = Q
  have q0 : ∀ i, i < 2 + 6 * n → Q i = page i := fun i hi => by
    rw [← hQ, pk_un (by omega), pk_un (by omega), pk_un (by omega), pk_un (by omega), pk_un (by omega), pk_un (by omega)]
  have em : ldiff (fm g n) (2 ^ n) = fm g n := ldiff_same (Nat.testBit_lt_two_pow hM)
  rw [q0 1 (by omega), q0 0 (by omega), hp.1, hp.2.1, shl_nI (by omega), not_nI (by omega), em, pk_un (show 0 ≠ 1 by omega), q0 0 (by omega), hp.1, nI_1, pk_us]
  refine ⟨_, rfl, PP_add hp pk_us ?_ ?_ ⟨?_, ?_, ?_, ?_, ?_, ?_⟩⟩
  · rw [pk_un (by omega), pk_us]
  · intro l hl j hj
    rw [pk_un (by omega), pk_un (by omega), q0 _ (by omega)]
  · rw [pk_un (by omega), pk_un (by omega), ← hQ, pk_un (by omega), pk_un (by omega), pk_un (by omega), pk_un (by omega), pk_un (by omega), pk_us]
  · rw [pk_un (by omega), pk_un (by omega), ← hQ, pk_un (by omega), pk_un (by omega), pk_un (by omega), pk_un (by omega), pk_us]
  · rw [pk_un (by omega), pk_un (by omega), ← hQ, pk_un (by omega), pk_un (by omega), pk_un (by omega), pk_us]
  · rw [pk_un (by omega), pk_un (by omega), ← hQ, pk_un (by omega), pk_un (by omega), pk_us]
  · rw [pk_un (by omega), pk_un (by omega), ← hQ, pk_un (by omega), pk_us]
  · rw [pk_un (by omega), pk_un (by omega), ← hQ, pk_us]
theorem keep_in {F m : Nat} {page : Nat → Int32} (isK : Nat → Int32) (hm : m ≤ 1) : ∀ (k i fuel : Nat) (B : Nat → Int32), k + i = 50 → k < fuel → ∃ B', f_X6_keep_L26 F page fuel (0 : Int32) B isK (nI m) (nI i) = some (page 0, 0, B', isK) ∧ ∀ t, B' t = if 50 * m + i ≤ t ∧ t < 50 * m + 50 then page (t - 50 * m) else B t := by
  intro k
  induction k with
  | zero =>
    intro i fuel B hk hf
    have e : i = 50 := by omega
    subst e
    obtain ⟨f, rfl⟩ : ∃ f, fuel = f + 1 := ⟨fuel - 1, by omega⟩
    refine ⟨B, ?_, fun t => by rw [if_neg (by omega)]⟩
    show f_X6_keep_B26 F page _ _ _ _ _ _ = _
    unfold f_X6_keep_B26
    rw [if_pos (show (50 : Int32) ≤ nI 50 from nI_le (Nat.le_refl 50) (by omega)), chk_0 (by omega) (by omega)]
    rfl
  | succ k ih =>
    intro i fuel B hk hf
    obtain ⟨f, rfl⟩ : ∃ f, fuel = f + 1 := ⟨fuel - 1, by omega⟩
    obtain ⟨B', h1, h2⟩ := ih (i + 1) f (upd B (50 * m + i) (page i)) (by omega) (by omega)
    refine ⟨B', ?_, fun t => ?_⟩
    · show f_X6_keep_B26 F page (f_X6_keep_L26 F page f) _ _ _ _ _ = _
      unfold f_X6_keep_B26
      have c : ¬ (50 : Int32) ≤ nI i := fun h => absurd ((nI_leI (a := 50) (by omega) (by omega)).mp h) (by omega)
      have ei : (50 : Int32) * nI m + nI i = nI (50 * m + i) := by rw [fa_lit 50, pk_mul, nI_add]
      rw [if_neg c, ei]
      simp (disch := omega) only [nmd, chk_nI, cl_nI, nI_1]
      exact h1
    · rw [h2 t]
      by_cases c : 50 * m + (i + 1) ≤ t ∧ t < 50 * m + 50
      · rw [if_pos c, if_pos (by omega)]
      · rw [if_neg c]
        by_cases e : t = 50 * m + i
        · subst e; rw [pk_us, if_pos (by omega)]; congr 1; omega
        · rw [pk_un e, if_neg (by omega)]
theorem RelK_iff {N : Nat} {filled : Int32} {C : CT} {kept isKept : Nat → Int32} : RelK N filled C kept isKept ↔ ∃ f : Nat, f < 4 ∧ filled = nI f ∧ ∀ i, i < 2 → isKept i = (if f.testBit i then 1 else 0) ∧ (f.testBit i = true → ENT N (C i) (fun j => kept (50 * i + j))) := Iff.rfl
theorem core_keep {N n F : Nat} {g : Nat → Nat → Nat} {size st stations : Int32} {rows page : Nat → Int32} (hF : F = 1000) (h : CV N n g size st rows stations page) {filled : Int32} {C : CT} {kept isKept : Nat → Int32} (hK : RelK N filled C kept isKept) (y th : Int32) : ∃ (r filled' : Int32) (C' : CT) (kept' isKept' : Nat → Int32), f_X5_keep F y filled size st rows C = some (r, filled', C') ∧ f_X6_keep F y th page kept isKept = some (r, 0, kept', isKept') ∧ RelK N filled' C' kept' isKept' := by
  obtain ⟨hw, ⟨rfl, rfl, hr⟩, hp, rfl⟩ := h
  have hn := hw.1
  have hK' := hK
  obtain ⟨f, hf, rfl, hE⟩ := RelK_iff.mp hK
  have e1 := v_in y 1 (by omega)
  rw [show Int64.ofNat 1 = (1 : Int64) from rfl] at e1
  unfold f_X5_keep f_X6_keep
  rw [e_in]
  have k2 : (2 : Int32).toInt = 2 := by decide
  simp only [bnd1_some', e1]
  rcases tri y (M := 1) (by decide) with h0 | h0 | ⟨m, hm, rfl⟩
  · refine ⟨-1, nI f, C, kept, isKept, ?_, ?_, hK'⟩
    · rw [if_pos (by rw [fa_lt, lit_0]; exact h0)]
    · rw [if_neg (show ¬ (0 ≤ y.toInt ∧ y.toInt ≤ (1 : Nat)) by omega)]; rfl
  · refine ⟨-1, nI f, C, kept, isKept, ?_, ?_, hK'⟩
    · rw [if_neg (by rw [fa_lt, lit_0]; omega), if_neg (by rw [fa_lt, k2]; omega)]
    · rw [if_neg (show ¬ (0 ≤ y.toInt ∧ y.toInt ≤ (1 : Nat)) by omega)]; rfl
  rw [nI_toInt (show m < 2 ^ 31 by omega), if_pos (show (0 ≤ (m : Int) ∧ (m : Int) ≤ (1 : Nat)) by omega), if_neg (show ¬ (1 : Int32) = 0 by decide), if_neg (nI_pos (by omega)), if_pos (show nI m < (2 : Int32) from nI_lt (b := 2) (by omega) (by omega)), cl_nI (by omega), chk_nI (by omega) (by omega), shl_nI (by omega), fa_or]
  obtain ⟨B', b1, b2⟩ := keep_in (F := F) (page := page) (upd isKept m (vp_nar .boolean 1)) hm 50 0 F kept (by omega) (by omega)
  have key : ∃ cs ct cr, (bnd3 (match C m with | none => f_X0_copy F 0 1 (fun _ => 0) (nI n) (nI N) rows | some c => f_X0_copy F c.1 c.2.1 c.2.2 (nI n) (nI N) rows) (fun c_s c_t c_r => some (nI n, nI (f ||| 2 ^ m), va_up C m (some (c_s, c_t, c_r))))) = some (nI n, nI (f ||| 2 ^ m), va_up C m (some (cs, ct, cr))) ∧ ENT N (some (cs, ct, cr)) page := by
    cases hC : C m with
    | none =>
      obtain ⟨R', c1, c2⟩ := e_copy (F := F) (by omega) 0 1 (nI n) (nI N) (fun _ => 0) rows
      refine ⟨nI n, nI N, R', ?_, n, g, nI n, nI N, R', hw, rfl, ⟨rfl, rfl, RR_cong hn c2 hr⟩, hp⟩
      simp only
      rw [c1]
      rfl
    | some c =>
      obtain ⟨R', c1, c2⟩ := e_copy (F := F) (by omega) c.1 c.2.1 (nI n) (nI N) c.2.2 rows
      refine ⟨nI n, nI N, R', ?_, n, g, nI n, nI N, R', hw, rfl, ⟨rfl, rfl, RR_cong hn c2 hr⟩, hp⟩
      simp only
      rw [c1]
      rfl
  obtain ⟨cs, ct, cr, q1, q2⟩ := key
  refine ⟨nI n, nI (f ||| 2 ^ m), va_up C m (some (cs, ct, cr)), B', upd isKept m (vp_nar .boolean 1), q1, ?_, RelK_iff.mpr ⟨f ||| 2 ^ m, ?_, rfl, fun i hi => ?_⟩⟩
  · have b1' : f_X6_keep_L26 F page F (0 : Int32) kept (upd isKept m (vp_nar .boolean 1)) (nI m) (0 : Int32) = _ := b1
    rw [b1', hp.1]
  · have : ∀ f, f < 4 → ∀ m, m < 2 → f ||| 2 ^ m < 4 := by decide
    exact this f hf m (by omega)
  · by_cases e : i = m
    · subst e
      have bt : (f ||| 2 ^ i).testBit i = true := by rw [Nat.testBit_or, Nat.testBit_two_pow_self, Bool.or_true]
      rw [bt, pk_us]
      refine ⟨rfl, fun _ => ?_⟩
      rw [vup_s]
      exact q2.cong (fun j hj => by rw [b2, if_pos (by omega), show 50 * i + j - 50 * i = j by omega])
    · have bt : (f ||| 2 ^ m).testBit i = f.testBit i := by
        rw [Nat.testBit_or, Nat.testBit_two_pow]
        simp [Ne.symm e]
      rw [bt, pk_un e]
      refine ⟨(hE i hi).1, fun hb => ?_⟩
      rw [vup_n _ _ e]
      exact ((hE i hi).2 hb).cong (fun j hj => by rw [b2, if_neg (by omega)])
theorem again_in {F m : Nat} {kept : Nat → Int32} (isK : Nat → Int32) (dg : Int32) (hm : m ≤ 1) : ∀ (k i fuel : Nat) (P : Nat → Int32), k + i = 50 → k < fuel → ∃ P', f_X6_again_L31 F kept isK fuel (0 : Int32) dg P (nI m) (nI i) = some (P' 0, 0, 0, P') ∧ ∀ j, j < 50 → P' j = if i ≤ j then kept (50 * m + j) else P j := by
  intro k
  induction k with
  | zero =>
    intro i fuel P hk hf
    have e : i = 50 := by omega
    subst e
    obtain ⟨f, rfl⟩ : ∃ f, fuel = f + 1 := ⟨fuel - 1, by omega⟩
    refine ⟨P, ?_, fun j hj => by rw [if_neg (by omega)]⟩
    show f_X6_again_B31 F kept isK _ _ _ _ _ _ = _
    unfold f_X6_again_B31
    rw [if_pos (show (50 : Int32) ≤ nI 50 from nI_le (Nat.le_refl 50) (by omega)), chk_0 (by omega) (by omega)]
    rfl
  | succ k ih =>
    intro i fuel P hk hf
    obtain ⟨f, rfl⟩ : ∃ f, fuel = f + 1 := ⟨fuel - 1, by omega⟩
    obtain ⟨P', h1, h2⟩ := ih (i + 1) f (upd P i (kept (50 * m + i))) (by omega) (by omega)
    refine ⟨P', ?_, fun j hj => ?_⟩
    · show f_X6_again_B31 F kept isK (f_X6_again_L31 F kept isK f) _ _ _ _ _ = _
      unfold f_X6_again_B31
      have c : ¬ (50 : Int32) ≤ nI i := fun h => absurd ((nI_leI (a := 50) (by omega) (by omega)).mp h) (by omega)
      have ei : (50 : Int32) * nI m + nI i = nI (50 * m + i) := by rw [fa_lit 50, pk_mul, nI_add]
      rw [if_neg c, ei]
      simp (disch := omega) only [nmd, chk_nI, cl_nI, nI_1]
      exact h1
    · rw [h2 j hj]
      by_cases c : i + 1 ≤ j
      · rw [if_pos c, if_pos (by omega)]
      · rw [if_neg c]
        by_cases e : j = i
        · subst e; rw [pk_us, if_pos (by omega)]
        · rw [pk_un e, if_neg (by omega)]
theorem core_again {N n F : Nat} {g : Nat → Nat → Nat} {size st stations : Int32} {rows page : Nat → Int32} (hF : F = 1000) (h : CV N n g size st rows stations page) {filled next depth doings : Int32} {C C1 : CT} {kept isKept book : Nat → Int32} (hK : RelK N filled C kept isKept) (hU : RelU N next depth C1 doings book) (y th : Int32) : ∃ (r size' st' depth' : Int32) (rows' : Nat → Int32) (doings' : Int32) (page' : Nat → Int32) (n' : Nat) (g' : Nat → Nat → Nat), f_X5_again F y filled size st depth rows C = some (r, size', st', depth', rows') ∧ f_X6_again F y th doings page kept isKept = some (r, 0, doings', page') ∧ CV N n' g' size' st' rows' stations page' ∧ RelU N next depth' C1 doings' book := by
  have hcv := h
  obtain ⟨hw, ⟨rfl, rfl, hr⟩, hp, rfl⟩ := h
  have hn := hw.1
  obtain ⟨f, hf, rfl, hE⟩ := RelK_iff.mp hK
  have e1 := v_in y 1 (by omega)
  rw [show Int64.ofNat 1 = (1 : Int64) from rfl] at e1
  unfold f_X5_again f_X6_again f_X1_forget
  rw [e_in]
  have k2 : (2 : Int32).toInt = 2 := by decide
  simp only [bnd1_some', e1]
  rcases tri y (M := 1) (by decide) with h0 | h0 | ⟨m, hm, rfl⟩
  · refine ⟨-1, nI n, nI N, depth, rows, doings, page, n, g, ?_, ?_, hcv, hU⟩
    · rw [if_pos (by rw [fa_lt, lit_0]; exact h0)]
    · rw [if_neg (show ¬ (0 ≤ y.toInt ∧ y.toInt ≤ (1 : Nat)) by omega)]; rfl
  · refine ⟨-1, nI n, nI N, depth, rows, doings, page, n, g, ?_, ?_, hcv, hU⟩
    · rw [if_neg (by rw [fa_lt, lit_0]; omega), if_neg (by rw [fa_lt, k2]; omega)]
    · rw [if_neg (show ¬ (0 ≤ y.toInt ∧ y.toInt ≤ (1 : Nat)) by omega)]; rfl
  have hm2 : m < 2 := by omega
  rw [nI_toInt (show m < 2 ^ 31 by omega), if_pos (show (0 ≤ (m : Int) ∧ (m : Int) ≤ (1 : Nat)) by omega), if_neg (show ¬ (1 : Int32) = 0 by decide), if_neg (nI_pos (by omega)), if_pos (show nI m < (2 : Int32) from nI_lt (b := 2) (by omega) (by omega)), cl_nI (by omega), chk_nI (by omega) (by omega), (hE m hm2).1, e_holds (by omega) (by omega)]
  simp only [bnd1_some', i01]
  cases hb : f.testBit m with
  | false =>
    refine ⟨-3, nI n, nI N, depth, rows, doings, page, n, g, ?_, by simp, hcv, hU⟩
    cases hC : C m with
    | none => rfl
    | some c => rfl
  | true =>
    obtain ⟨n', g', s, t, r, k1, kk, ⟨rfl, rfl, k4⟩, k5⟩ := (hE m hm2).2 hb
    obtain ⟨R', c1, c2⟩ := e_copy (F := F) (by omega) (nI n) (nI N) (nI n') (nI N) rows r
    obtain ⟨P', p1, p2⟩ := again_in (F := F) (m := m) (kept := kept) isKept doings hm 50 0 F page (by omega) (by omega)
    have hP : PP n' g' P' := PP_cong (page := fun j => kept (50 * m + j)) k1.1 (fun j hj => by rw [p2 j hj, if_pos (Nat.zero_le j)]) k5
    obtain ⟨d, x, hd, hx, rfl, rfl, rfl, _⟩ := RelU_iff.mp hU
    refine ⟨nI n', nI n', nI N, 0, R', 0, P', n', g', ?_, ?_, ⟨k1, ⟨rfl, rfl, RR_cong k1.1 c2 k4⟩, hP, rfl⟩, RelU_iff.mpr ⟨0, x, by omega, hx, rfl, rfl, rfl, fun i hi => absurd hi (Nat.not_lt_zero i)⟩⟩
    · rw [kk]
      simp only
      rw [if_neg (by decide), c1]
      rfl
    · rw [if_neg (by decide)]
      have p1' : f_X6_again_L31 F kept isKept F (0 : Int32) (nI d) page (nI m) (0 : Int32) = _ := p1
      rw [p1', hP.1]
