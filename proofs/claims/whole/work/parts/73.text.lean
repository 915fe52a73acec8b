/-! ===== the text and its errors ===== -/
theorem nmdS {α β : Type} (a : α) (f : α → β) : nmd a f = f a := rfl
theorem bnd2S {α β ρ : Type} (x : α) (y : β) (f : α → β → Option ρ) : bnd2 (some (x, y)) f = f x y := rfl
def vN (ch : Nat) : Nat := if 48 ≤ ch ∧ ch ≤ 57 then ch - 48 else if ch = 97 then 10 else if ch = 98 then 11 else 12
def vW (v : Nat) : Int32 := if v = 12 then -1 else nI v
theorem vN_lt (ch : Nat) : vN ch < 13 := by unfold vN; split <;> (try split) <;> (try split) <;> omega
theorem vW_n {v : Nat} (h : v ≤ 11) : vW v = nI v := if_neg (by omega)
def TX (q : Nat) (c : Nat → Nat) (L : Nat → Int32) : Prop := q ≤ 70 ∧ ∀ i, i < q → c i < 256 ∧ L i = nI (c i)
theorem chc : ∀ ch, ch < 256 → ((nI ch).toUInt32 % 65536).toInt32 = nI ch := by decide +kernel
theorem e_let {q i : Nat} {c : Nat → Nat} {L : Nat → Int32} (h : TX q c L) (hi : i < q) : f_X4_letterAt (nI i) (nI q) L = some (nI (c i)) := by
  have hq := h.1
  obtain ⟨h1, h2⟩ := h.2 i hi
  unfold f_X4_letterAt
  rw [if_neg (nI_pos (by omega)), if_neg (nI_ge hi (by omega)), if_neg (show ¬ (70 : Int32) ≤ nI i from nI_ge (b := 70) (by omega) (by omega)), chk_nI (by omega) (by omega), cl_nI (by omega), h2]
  unfold chkC
  rw [if_pos (chc _ h1)]
theorem vtab : ∀ ch, ch < 256 → (if nI ch < (48 : Int32) then (if nI ch = (97 : Int32) then some (10 : Int32) else (if nI ch = (98 : Int32) then some (11 : Int32) else some (-1 : Int32))) else (if (57 : Int32) < nI ch then (if nI ch = (97 : Int32) then some (10 : Int32) else (if nI ch = (98 : Int32) then some (11 : Int32) else some (-1 : Int32))) else some (nI ch - (48 : Int32)))) = some (vW (vN ch)) := by decide +kernel
theorem e_value {q i : Nat} {c : Nat → Nat} {L : Nat → Int32} (h : TX q c L) (hi : i < q) : f_X4_value (nI i) (nI q) L = some (vW (vN (c i))) := by
  unfold f_X4_value f_X4_value_J23
  rw [e_let h hi]
  simp only [bnd1_some']
  exact vtab _ (h.2 i hi).1
theorem tb1 : ∀ v, v < 13 → (if vW v < (1 : Int32) then some (0 : Int32) else (if (6 : Int32) < vW v then some (0 : Int32) else some (1 : Int32))) = some (if 1 ≤ v ∧ v ≤ 6 then 1 else 0) := by decide +kernel
theorem tc0 : ∀ N, N < 7 → ((vW N ≤ (1 : Int32)) ↔ ¬ 2 ≤ N) := by decide +kernel
theorem tc1 : ∀ v, v < 13 → ∀ N, N < 7 → (if vW v < (0 : Int32) then some (0 : Int32) else (if vW N ≤ vW v then some (0 : Int32) else some (1 : Int32))) = some (if v < N then 1 else 0) := by decide +kernel
theorem tc2 : ∀ v, v < 13 → ∀ N, N < 7 → ∀ u, u < 13 → (if vW v < (0 : Int32) then some (0 : Int32) else (if vW N ≤ vW v then some (0 : Int32) else (if vW v = vW u then some (0 : Int32) else some (1 : Int32)))) = some (if v < N ∧ v ≠ u then 1 else 0) := by decide +kernel
theorem tc3 : ∀ v, v < 13 → (if vW v < (0 : Int32) then some (0 : Int32) else (if (9 : Int32) < vW v then some (0 : Int32) else some (1 : Int32))) = some (if v ≤ 9 then 1 else 0) := by decide +kernel
theorem tc4 : ∀ v, v < 13 → ∀ u, u < 13 → (if vW v < (0 : Int32) then some (0 : Int32) else (if (9 : Int32) < vW v then some (0 : Int32) else bnd1 (f_X5_allows (0 : Int32) (((10 : Int32) * vW u) + vW v)) (fun r => if r = (0 : Int32) then some (0 : Int32) else some (1 : Int32)))) = some (if u ≤ 9 ∧ v ≤ 9 ∧ 1 ≤ 10 * u + v then 1 else 0) := by decide +kernel
theorem tc5 : ∀ v, v < 13 → bnd1 (f_X5_allows (1 : Int32) (vW v)) (fun r => chkZ r (some r)) = some (if v ≤ 11 then 1 else 0) := by decide +kernel
theorem tc6 : ∀ v, v < 13 → bnd1 (f_X5_allows (2 : Int32) (vW v)) (fun r => chkZ r (some r)) = some (if v ≤ 4 then 1 else 0) := by decide +kernel
theorem tc7 : ∀ v, v < 13 → bnd1 (f_X5_allows (3 : Int32) (vW v)) (fun r => chkZ r (some r)) = some (if 1 ≤ v ∧ v ≤ 9 then 1 else 0) := by decide +kernel
/-- what can stand at place j of a leg that begins at p -/
def okP (c : Nat → Nat) (N p j : Nat) : Prop :=
  (j = 0 ∧ c p = 108 ∧ 2 ≤ N ∧ p < 66) ∨ (j = 1 ∧ vN (c (p + 1)) < N) ∨ (j = 2 ∧ vN (c (p + 2)) < N ∧ vN (c (p + 2)) ≠ vN (c (p + 1))) ∨ (j = 3 ∧ vN (c (p + 3)) ≤ 9) ∨ (j = 4 ∧ vN (c (p + 3)) ≤ 9 ∧ vN (c (p + 4)) ≤ 9 ∧ 1 ≤ 10 * vN (c (p + 3)) + vN (c (p + 4))) ∨ (j = 5 ∧ vN (c (p + 5)) ≤ 11) ∨ (j = 6 ∧ vN (c (p + 6)) ≤ 4) ∨ (j = 7 ∧ 1 ≤ vN (c (p + 7)) ∧ vN (c (p + 7)) ≤ 9)
theorem okI {P : Prop} [Decidable P] {Q : Prop} [Decidable Q] (h : P ↔ Q) : (if P then (1 : Int32) else 0) = if Q then 1 else 0 := by
  by_cases p : P
  · rw [if_pos p, if_pos (h.mp p)]
  · rw [if_neg p, if_neg (fun q => p (h.mpr q))]
noncomputable def okB (c : Nat → Nat) (N p j : Nat) : Bool := @decide (okP c N p j) (Classical.propDecidable _)
theorem okB_t {c : Nat → Nat} {N p j : Nat} : okB c N p j = true ↔ okP c N p j := by
  unfold okB
  constructor
  · intro h; exact @of_decide_eq_true _ (Classical.propDecidable _) h
  · intro h; exact @decide_eq_true _ (Classical.propDecidable _) h
theorem rem8 {k j : Nat} (hk : k < 100) (hj : j < 8) : remI (nI (2 + 8 * k + j) - (2 : Int32)) (8 : Int32) = nI j := by
  have e1 : nI (2 + 8 * k + j) - (2 : Int32) = nI (8 * k + j) := by
    have := pk_sub (a := 2 + 8 * k + j) (b := 2) (by omega)
    rw [show 2 + 8 * k + j - 2 = 8 * k + j by omega] at this
    exact this
  rw [e1]
  have e2 : remI (nI (8 * k + j)) (8 : Int32) = nI ((8 * k + j) % 8) := pk_rem (d := 8) (by omega) (by omega) (by omega)
  rw [e2, show (8 * k + j) % 8 = j by omega]
theorem e_can {q k j N : Nat} {c : Nat → Nat} {L : Nat → Int32} (h : TX q c L) (hj : j < 8) (hi : 2 + 8 * k + j < q) (hN : vN (c 1) = N) (hN6 : N ≤ 6) : f_X4_canStand (nI (2 + 8 * k + j)) (nI q) L = some (if okB c N (2 + 8 * k) j = true then 1 else 0) := by
  have hq := h.1
  have v0 := e_value h hi
  have v1 : f_X4_value (1 : Int32) (nI q) L = some (vW N) := by rw [← hN]; exact e_value (i := 1) h (by omega)
  have l0 := e_let h hi
  have r8 := rem8 (k := k) (j := j) (by omega) hj
  have c2 : (2 : Int32) ≤ nI (2 + 8 * k + j) := nI_le (a := 2) (by omega) (by omega)
  have vl := vN_lt (c (2 + 8 * k + j))
  unfold f_X4_canStand
  rw [v0, r8, l0]
  simp only [bnd1_some', nmd, v1]
  rw [if_pos c2]
  have h8 : j = 0 ∨ j = 1 ∨ j = 2 ∨ j = 3 ∨ j = 4 ∨ j = 5 ∨ j = 6 ∨ j = 7 := by omega
  rcases h8 with rfl | rfl | rfl | rfl | rfl | rfl | rfl | rfl
  · rw [if_pos (show nI 0 = (0 : Int32) from rfl)]
    have e108 : (nI (c (2 + 8 * k + 0)) = (108 : Int32)) ↔ c (2 + 8 * k) = 108 := nI_eq (b := 108) (by have := (h.2 _ hi).1; omega) (by omega)
    have e66 : ((66 : Int32) ≤ nI (2 + 8 * k + 0)) ↔ ¬ 2 + 8 * k < 66 := by
      rw [show ((66 : Int32) ≤ nI (2 + 8 * k + 0)) ↔ 66 ≤ 2 + 8 * k + 0 from nI_leI (a := 66) (by omega) (by omega)]
      omega
    simp only [e108, e66, tc0 N (by omega)]
    by_cases o : okP c N (2 + 8 * k) 0
    · rw [if_pos (okB_t.mpr o)]
      unfold okP at o
      rw [if_pos (by omega), if_neg (by omega), if_neg (by omega)]
    · rw [if_neg (fun q => o (okB_t.mp q))]
      unfold okP at o
      by_cases o1 : c (2 + 8 * k) = 108
      · rw [if_pos o1]
        by_cases o2 : 2 ≤ N
        · rw [if_neg (by omega), if_pos (by omega)]
        · rw [if_pos o2]
      · rw [if_neg o1]
  · rw [if_neg (by decide), if_pos (show nI 1 = (1 : Int32) from rfl), tc1 _ vl N (by omega)]
    congr 1
    exact okI (by rw [okB_t]; unfold okP; omega)
  · have v3 : f_X4_value (nI (2 + 8 * k + 2) - (1 : Int32)) (nI q) L = some (vW (vN (c (2 + 8 * k + 1)))) := by
      rw [nI_s1]; exact e_value h (by omega)
    simp only [v3, bnd1_some']
    rw [if_neg (by decide), if_neg (by decide), if_pos (show nI 2 = (2 : Int32) from rfl), tc2 _ vl N (by omega) _ (vN_lt _)]
    congr 1
    exact okI (by rw [okB_t]; unfold okP; omega)
  · rw [if_neg (by decide), if_neg (by decide), if_neg (by decide), if_pos (show nI 3 = (3 : Int32) from rfl), tc3 _ vl]
    congr 1
    exact okI (by rw [okB_t]; unfold okP; omega)
  · have v3 : f_X4_value (nI (2 + 8 * k + 4) - (1 : Int32)) (nI q) L = some (vW (vN (c (2 + 8 * k + 3)))) := by
      rw [nI_s1]; exact e_value h (by omega)
    simp only [v3, bnd1_some']
    rw [if_neg (by decide), if_neg (by decide), if_neg (by decide), if_neg (by decide), if_pos (show nI 4 = (4 : Int32) from rfl), tc4 _ vl _ (vN_lt _)]
    congr 1
    exact okI (by rw [okB_t]; unfold okP; omega)
  · rw [if_neg (by decide), if_neg (by decide), if_neg (by decide), if_neg (by decide), if_neg (by decide), if_pos (show nI 5 = (5 : Int32) from rfl), tc5 _ vl]
    congr 1
    exact okI (by rw [okB_t]; unfold okP; omega)
  · rw [if_neg (by decide), if_neg (by decide), if_neg (by decide), if_neg (by decide), if_neg (by decide), if_neg (by decide), if_pos (show nI 6 = (6 : Int32) from rfl), tc6 _ vl]
    congr 1
    exact okI (by rw [okB_t]; unfold okP; omega)
  · rw [if_neg (by decide), if_neg (by decide), if_neg (by decide), if_neg (by decide), if_neg (by decide), if_neg (by decide), if_neg (by decide), tc7 _ vl]
    congr 1
    exact okI (by rw [okB_t]; unfold okP; omega)
/-! the first place of a leg that fails -/
noncomputable def ff (q : Nat) (c : Nat → Nat) (N p : Nat) : Nat → Nat → Option Nat
  | 0, _ => none
  | m + 1, j => if p + j < q ∧ okB c N p j = true then ff q c N p m (j + 1) else some j
theorem ff_s {q N p m j : Nat} {c : Nat → Nat} (h : p + j < q) (o : okP c N p j) : ff q c N p (m + 1) j = ff q c N p m (j + 1) := if_pos ⟨h, okB_t.mpr o⟩
theorem ff_f {q N p m j : Nat} {c : Nat → Nat} (h : ¬ (p + j < q ∧ okP c N p j)) : ff q c N p (m + 1) j = some j := if_neg (fun q => h ⟨q.1, okB_t.mp q.2⟩)
theorem ff_none {q N p : Nat} {c : Nat → Nat} : ∀ (m j : Nat), ff q c N p m j = none → ∀ i, j ≤ i → i < j + m → p + i < q ∧ okP c N p i
  | 0, _, _, i, h1, h2 => by omega
  | m + 1, j, h, i, h1, h2 => by
    by_cases o : p + j < q ∧ okP c N p j
    · rw [ff_s o.1 o.2] at h
      by_cases e : i = j
      · rw [e]; exact o
      · exact ff_none m (j + 1) h i (by omega) (by omega)
    · rw [ff_f o] at h; cases h
noncomputable def rd (q : Nat) (c : Nat → Nat) (N : Nat) : Nat → Nat → Option Nat
  | 0, _ => none
  | f + 1, p => if q ≤ p then none else match ff q c N p 8 0 with
    | some t => some (p + t)
    | none => rd q c N f (p + 8)
theorem er_step {F q f i : Nat} {c : Nat → Nat} {L : Nat → Int32} {b : Bool} (h : TX q c L) (hi : i < q) (hc : f_X4_canStand (nI i) (nI q) L = some (if b = true then 1 else 0)) : f_X4_errorAt_L2 F (nI q) L (f + 1) (nI i) = if b = true then f_X4_errorAt_L2 F (nI q) L f (nI (i + 1)) else some (nI i) := by
  have hq := h.1
  show f_X4_errorAt_B2 F (nI q) L (f_X4_errorAt_L2 F (nI q) L f) (nI i) = _
  unfold f_X4_errorAt_B2
  rw [if_neg (nI_ge hi (by omega)), hc]
  simp only [bnd1_some', i01, nmd, nI_1]
  cases b <;> rfl
theorem er_end {F q f : Nat} {c : Nat → Nat} {L : Nat → Int32} (h : TX q c L) (h2 : 2 ≤ q) : f_X4_errorAt_L2 F (nI q) L (f + 1) (nI q) = some (if (q - 2) % 8 = 0 then -9 else nI q) := by
  have hq := h.1
  show f_X4_errorAt_B2 F (nI q) L (f_X4_errorAt_L2 F (nI q) L f) (nI q) = _
  unfold f_X4_errorAt_B2 f_X4_errorAt_J51
  have e1 : nI q - (2 : Int32) = nI (q - 2) := pk_sub (b := 2) h2
  have e2 : remI (nI (q - 2)) (8 : Int32) = nI ((q - 2) % 8) := pk_rem (d := 8) (by omega) (by omega) (by omega)
  have e3 : (nI ((q - 2) % 8) = (0 : Int32)) ↔ (q - 2) % 8 = 0 := nI_eq (b := 0) (by omega) (by omega)
  rw [if_pos (nI_le (Nat.le_refl q) (by omega)), if_neg (show ¬ nI q < (2 : Int32) from fun hh => absurd ((nI_ltI (b := 2) (by omega) (by omega)).mp hh) (by omega)), e1, e2]
  simp only [e3]
  split <;> rfl
theorem er_leg {F q k N : Nat} {c : Nat → Nat} {L : Nat → Int32} (h : TX q c L) (hN : vN (c 1) = N) (hN6 : N ≤ 6) : ∀ (m j fuel : Nat), m + j = 8 → 2 + 8 * k + j ≤ q → (j = 0 → 2 + 8 * k < q) → m < fuel → f_X4_errorAt_L2 F (nI q) L fuel (nI (2 + 8 * k + j)) = (match ff q c N (2 + 8 * k) m j with | some t => some (nI (2 + 8 * k + t)) | none => f_X4_errorAt_L2 F (nI q) L (fuel - m) (nI (2 + 8 * (k + 1)))) := by
  intro m
  induction m with
  | zero =>
    intro j fuel hm h1 h2 hf
    have e : 2 + 8 * k + j = 2 + 8 * (k + 1) := by omega
    rw [e]
    rfl
  | succ m ih =>
    intro j fuel hm h1 h2 hf
    obtain ⟨f, rfl⟩ : ∃ f, fuel = f + 1 := ⟨fuel - 1, by omega⟩
    by_cases hi : 2 + 8 * k + j < q
    · rw [er_step h hi (e_can h (by omega) hi hN hN6)]
      by_cases o : okP c N (2 + 8 * k) j
      · rw [ff_s hi o, if_pos (okB_t.mpr o), show 2 + 8 * k + j + 1 = 2 + 8 * k + (j + 1) by omega, ih (j + 1) f (by omega) (by omega) (by omega) (by omega), show f + 1 - (m + 1) = f - m by omega]
      · rw [ff_f (fun q => o q.2), if_neg (fun q => o (okB_t.mp q))]
    · have e : 2 + 8 * k + j = q := by omega
      rw [ff_f (fun q => hi q.1)]
      have hend := er_end (F := F) (f := f) h (by omega)
      rw [e, hend, if_neg (by omega)]
      show some (nI q) = some (nI (2 + 8 * k + j))
      rw [e]
def oN : Option Nat → Int32
  | none => -9
  | some t => nI t
theorem er_all {F q N : Nat} {c : Nat → Nat} {L : Nat → Int32} (h : TX q c L) (hN : vN (c 1) = N) (hN6 : N ≤ 6) : ∀ (f k fuel : Nat), 2 + 8 * k ≤ q → q ≤ 2 + 8 * k + 8 * f → 8 * f < fuel → f_X4_errorAt_L2 F (nI q) L fuel (nI (2 + 8 * k)) = some (oN (rd q c N f (2 + 8 * k))) := by
  intro f
  induction f with
  | zero =>
    intro k fuel h1 h2 hf
    have e : 2 + 8 * k = q := by omega
    obtain ⟨f, rfl⟩ : ∃ f, fuel = f + 1 := ⟨fuel - 1, by omega⟩
    rw [e, er_end h (by omega), if_pos (by omega)]
    rfl
  | succ f ih =>
    intro k fuel h1 h2 hf
    by_cases e : q = 2 + 8 * k
    · obtain ⟨f, rfl⟩ : ∃ f, fuel = f + 1 := ⟨fuel - 1, by omega⟩
      have er : rd q c N (f + 1) (2 + 8 * k) = none := if_pos (by omega)
      have er' : ∀ f, rd q c N (f + 1) (2 + 8 * k) = none := fun f => if_pos (by omega)
      rw [er', ← e, er_end h (by omega), if_pos (by omega)]
      rfl
    · have er : rd q c N (f + 1) (2 + 8 * k) = (match ff q c N (2 + 8 * k) 8 0 with | some t => some (2 + 8 * k + t) | none => rd q c N f (2 + 8 * k + 8)) := if_neg (by omega)
      have hl := er_leg (F := F) (k := k) h hN hN6 8 0 fuel (by omega) (by omega) (fun _ => by omega) (by omega)
      rw [show 2 + 8 * k + 0 = 2 + 8 * k by omega] at hl
      rw [hl, er]
      cases hff : ff q c N (2 + 8 * k) 8 0 with
      | some t => rfl
      | none =>
        have h7 := ff_none 8 0 hff 7 (by omega) (by omega)
        have := ih (k + 1) (fuel - 8) (by omega) (by omega) (by omega)
        rw [show 2 + 8 * k + 8 = 2 + 8 * (k + 1) by omega]
        exact this
theorem rd_none {q N : Nat} {c : Nat → Nat} : ∀ (f k : Nat), rd q c N f (2 + 8 * k) = none → 2 + 8 * k ≤ q → q ≤ 2 + 8 * k + 8 * f → ∃ k', q = 2 + 8 * k' ∧ k ≤ k' ∧ ∀ l, k ≤ l → l < k' → ff q c N (2 + 8 * l) 8 0 = none
  | 0, k, _, h1, h2 => ⟨k, by omega, Nat.le_refl k, fun l _ _ => by omega⟩
  | f + 1, k, h, h1, h2 => by
    by_cases e : q = 2 + 8 * k
    · exact ⟨k, e, Nat.le_refl k, fun l _ _ => by omega⟩
    · have er : rd q c N (f + 1) (2 + 8 * k) = (match ff q c N (2 + 8 * k) 8 0 with | some t => some (2 + 8 * k + t) | none => rd q c N f (2 + 8 * k + 8)) := if_neg (by omega)
      rw [er] at h
      cases hff : ff q c N (2 + 8 * k) 8 0 with
      | some t => rw [hff] at h; cases h
      | none =>
        rw [hff] at h
        have h7 := ff_none 8 0 hff 7 (by omega) (by omega)
        have h' : rd q c N f (2 + 8 * (k + 1)) = none := by rw [show 2 + 8 * (k + 1) = 2 + 8 * k + 8 by omega]; exact h
        obtain ⟨k', a, b, d⟩ := rd_none f (k + 1) h' (by omega) (by omega)
        refine ⟨k', a, by omega, fun l l1 l2 => ?_⟩
        by_cases e2 : l = k
        · rw [e2]; exact hff
        · exact d l (by omega) l2
/-! what is read -/
def wT (c : Nat → Nat) (p : Nat) : Nat → Nat := w7 (10 * vN (c (p + 3)) + vN (c (p + 4))) (vN (c (p + 5))) (vN (c (p + 6))) (vN (c (p + 7))) (vN (c (p + 1))) (vN (c (p + 2)))
def gT (c : Nat → Nat) : Nat → Nat → Nat → Nat
  | 0 => fun _ _ => 0
  | k + 1 => gadd (gT c k) k (wT c (2 + 8 * k))
theorem ok_all {q N p : Nat} {c : Nat → Nat} (h : ff q c N p 8 0 = none) : p + 7 < q ∧ c p = 108 ∧ 2 ≤ N ∧ p < 66 ∧ vN (c (p + 1)) < N ∧ vN (c (p + 2)) < N ∧ vN (c (p + 2)) ≠ vN (c (p + 1)) ∧ vN (c (p + 3)) ≤ 9 ∧ vN (c (p + 4)) ≤ 9 ∧ 1 ≤ 10 * vN (c (p + 3)) + vN (c (p + 4)) ∧ vN (c (p + 5)) ≤ 11 ∧ vN (c (p + 6)) ≤ 4 ∧ 1 ≤ vN (c (p + 7)) ∧ vN (c (p + 7)) ≤ 9 := by
  have h0 := ff_none 8 0 h 0 (by omega) (by omega)
  have h1 := ff_none 8 0 h 1 (by omega) (by omega)
  have h2 := ff_none 8 0 h 2 (by omega) (by omega)
  have h4 := ff_none 8 0 h 4 (by omega) (by omega)
  have h5 := ff_none 8 0 h 5 (by omega) (by omega)
  have h6 := ff_none 8 0 h 6 (by omega) (by omega)
  have h7 := ff_none 8 0 h 7 (by omega) (by omega)
  unfold okP at h0 h1 h2 h4 h5 h6 h7
  omega
theorem gT_wf {q N : Nat} {c : Nat → Nat} (hN1 : 1 ≤ N) (hN6 : N ≤ 6) : ∀ (k : Nat), (∀ l, l < k → ff q c N (2 + 8 * l) 8 0 = none) → WF k N (gT c k)
  | 0, _ => ⟨by omega, hN1, hN6, fun l hl => absurd hl (Nat.not_lt_zero l)⟩
  | k + 1, h => by
    have ih := gT_wf (q := q) hN1 hN6 k (fun l hl => h l (by omega))
    obtain ⟨-, -, -, o1, o2, o3, o4, o5, o6, o7, o8, o9, o10, o11⟩ := ok_all (h k (by omega))
    exact WF_add ih (by omega) o7 (by omega) o8 o9 o10 o11 o2 o3 (fun e => o4 e.symm)
theorem dsc_in {F q N k' : Nat} {c : Nat → Nat} {L : Nat → Int32} (h : TX q c L) (hN1 : 1 ≤ N) (hN6 : N ≤ 6) (hq : q = 2 + 8 * k') (hok : ∀ l, l < k' → ff q c N (2 + 8 * l) 8 0 = none) : ∀ (m l fuel : Nat) (rows : Nat → Int32), m + l = k' → m < fuel → RR l (gT c l) rows → ∃ rows', f_X4_describe_L16 F (nI q) L fuel (nI l) (nI N) rows (nI (2 + 8 * l)) = some (nI k', nI N, rows') ∧ RR k' (gT c k') rows' := by
  have hq70 := h.1
  have e8 : ∀ l, nI (2 + 8 * l) + (8 : Int32) = nI (2 + 8 * (l + 1)) := fun l => by
    rw [fa_lit 8, nI_add]; congr 1
  intro m
  induction m with
  | zero =>
    intro l fuel rows hm hf hr
    have e : l = k' := by omega
    subst e
    obtain ⟨f, rfl⟩ : ∃ f, fuel = f + 1 := ⟨fuel - 1, by omega⟩
    refine ⟨rows, ?_, hr⟩
    show f_X4_describe_B16 F (nI q) L _ _ _ _ _ = _
    unfold f_X4_describe_B16
    rw [e8, if_pos (nI_lt (by omega) (by omega))]
  | succ m ih =>
    intro l fuel rows hm hf hr
    obtain ⟨f, rfl⟩ : ∃ f, fuel = f + 1 := ⟨fuel - 1, by omega⟩
    have hl : l < k' := by omega
    obtain ⟨o0, -, -, o1, o2, o3, o4, o5, o6, o7, o8, o9, o10, o11⟩ := ok_all (hok l hl)
    have va : ∀ j, j < 8 → vN (c (2 + 8 * l + j)) ≤ 11 → f_X4_value (nI (2 + 8 * l + j)) (nI q) L = some (nI (vN (c (2 + 8 * l + j)))) := fun j hj hv => by
      rw [e_value h (by omega), vW_n hv]
    have ea : ∀ j, nI (2 + 8 * l) + nI j = nI (2 + 8 * l + j) := fun j => nI_add _ _
    obtain ⟨R', a1, a2⟩ := e_add (t := 10 * vN (c (2 + 8 * l + 3)) + vN (c (2 + 8 * l + 4))) (b := vN (c (2 + 8 * l + 5))) (s := vN (c (2 + 8 * l + 6))) (w := vN (c (2 + 8 * l + 7))) (f := vN (c (2 + 8 * l + 1))) (o := vN (c (2 + 8 * l + 2))) hr (by omega) (by omega) (by omega)
    obtain ⟨rows', h1, h2⟩ := ih (l + 1) f R' (by omega) (by omega) a2
    refine ⟨rows', ?_, h2⟩
    show f_X4_describe_B16 F (nI q) L (f_X4_describe_L16 F (nI q) L f) _ _ _ _ = _
    unfold f_X4_describe_B16
    rw [e8, if_neg (fun hh => absurd ((nI_ltI (by omega) (by omega)).mp hh) (by omega)), fa_lit 3, fa_lit 4, fa_lit 1, fa_lit 2, fa_lit 5, fa_lit 6, fa_lit 7, ea, ea, ea, ea, ea, ea, ea, va 3 (by omega) (by omega), va 4 (by omega) (by omega), va 1 (by omega) (by omega), va 2 (by omega) (by omega), va 5 (by omega) (by omega), va 6 (by omega) (by omega), va 7 (by omega) (by omega)]
    simp only [bnd1_some', nmd]
    rw [fa_lit 10, pk_mul, nI_add, a1]
    exact h1
/-! ===== the reference reads ===== -/
theorem ftab : ∀ ch, ch < 256 → ∀ a, a < 2 → ∀ b, b < 10 → (if (nI a).toInt64 ≤ (nI ch - (48 : Int32)).toInt64 ∧ (nI ch - (48 : Int32)).toInt64 ≤ (nI b).toInt64 then (1 : Int32) else 0) = (if a ≤ vN ch ∧ vN ch ≤ b then 1 else 0) := by decide +kernel
theorem ft2 : ∀ ch, ch < 256 → vN ch ≤ 9 → nI ch - (48 : Int32) = nI (vN ch) := by decide +kernel
theorem f9tab : ∀ a, a < 2 → ∀ b, b < 10 → ¬ ((nI a).toInt64 ≤ (-9 : Int32).toInt64 ∧ (-9 : Int32).toInt64 ≤ (nI b).toInt64) := by decide +kernel
theorem e_fig {q i a b : Nat} {c : Nat → Nat} {T : Nat → Int32} (h : TX q c T) (ha : a < 2) (hb : b < 10) (hi70 : i < 80) : f_X6_figure (nI a) (nI b) (nI q) (nI i) T = some (if i < q ∧ a ≤ vN (c i) ∧ vN (c i) ≤ b then (nI (vN (c i)), nI (i + 1)) else (-9, nI i)) := by
  have hq := h.1
  unfold f_X6_figure f_X6_figure_J28
  by_cases hi : i < q
  · obtain ⟨h1, h2⟩ := h.2 i hi
    rw [if_neg (nI_ge hi (by omega)), chk_nI (by omega) (by omega), cl_nI (by omega), h2, e_in, ftab (c i) h1 a ha b hb, bnd1_some']
    by_cases o : a ≤ vN (c i) ∧ vN (c i) ≤ b
    · rw [if_pos o, if_neg (show ¬ (1 : Int32) = 0 by decide), if_pos ⟨hi, o⟩, ft2 (c i) h1 (by omega), nI_1]
      rfl
    · rw [if_neg o, if_pos rfl, if_neg (fun q => o q.2)]
  · rw [if_pos (nI_le (by omega) (by omega)), e_in, if_neg (f9tab a ha b hb), bnd1_some', if_pos rfl, if_neg (fun q => hi q.1)]
theorem btab : ∀ ch, ch < 256 → (nI ch = (97 : Int32) ↔ vN ch = 10) ∧ (nI ch = (98 : Int32) ↔ vN ch = 11) := by decide +kernel
theorem e_bear {q i : Nat} {c : Nat → Nat} {T : Nat → Int32} (h : TX q c T) (hi70 : i < 80) : f_X6_bearing (nI q) (nI i) T = some (if i < q ∧ vN (c i) ≤ 11 then (nI (vN (c i)), nI (i + 1)) else (-9, nI i)) := by
  have hq := h.1
  have fg := e_fig (a := 0) (b := 9) h (by omega) (by omega) hi70
  have fg' : f_X6_figure (0 : Int32) (9 : Int32) (nI q) (nI i) T = some (if i < q ∧ 0 ≤ vN (c i) ∧ vN (c i) ≤ 9 then (nI (vN (c i)), nI (i + 1)) else (-9, nI i)) := fg
  unfold f_X6_bearing f_X6_bearing_J24 f_X6_bearing_J49 f_X6_bearing_J66
  by_cases hi : i < q
  · obtain ⟨h1, h2⟩ := h.2 i hi
    obtain ⟨t1, t2⟩ := btab (c i) h1
    rw [if_neg (nI_ge hi (by omega)), chk_nI (by omega) (by omega), cl_nI (by omega), h2]
    by_cases o1 : vN (c i) = 10
    · rw [if_pos (t1.mpr o1), if_neg (show ¬ (10 : Int32) = -9 by decide), if_pos ⟨hi, by omega⟩, o1]
      show (if (10 : Int32) = -9 then bnd2 (f_X6_figure (0 : Int32) (9 : Int32) (nI q) (nI i + 1) T) (fun r3 w4 => some (r3, w4)) else some ((10 : Int32), nI i + 1)) = _
      rw [if_neg (show ¬ (10 : Int32) = -9 by decide), nI_1]
      rfl
    · rw [if_neg (fun z => o1 (t1.mp z))]
      by_cases o2 : vN (c i) = 11
      · rw [if_pos (t2.mpr o2), if_neg (show ¬ (11 : Int32) = -9 by decide), if_pos ⟨hi, by omega⟩, o2]
        show (if (11 : Int32) = -9 then bnd2 (f_X6_figure (0 : Int32) (9 : Int32) (nI q) (nI i + 1) T) (fun r3 w4 => some (r3, w4)) else some ((11 : Int32), nI i + 1)) = _
        rw [if_neg (show ¬ (11 : Int32) = -9 by decide), nI_1]
        rfl
      · rw [if_neg (fun z => o2 (t2.mp z)), if_pos rfl]
        show (if (-9 : Int32) = -9 then bnd2 (f_X6_figure (0 : Int32) (9 : Int32) (nI q) (nI i + 0) T) (fun r3 w4 => some (r3, w4)) else some ((-9 : Int32), nI i + 0)) = _
        rw [if_pos rfl, Int32.add_zero, fg']
        by_cases o3 : vN (c i) ≤ 9
        · rw [if_pos ⟨hi, Nat.zero_le _, o3⟩, if_pos ⟨hi, by omega⟩]; rfl
        · rw [if_neg (fun q => o3 q.2.2), if_neg (by omega)]; rfl
  · rw [if_pos (nI_le (by omega) (by omega)), if_neg (show ¬ (0 : Int32) = 97 by decide), if_neg (show ¬ (0 : Int32) = 98 by decide), if_pos rfl]
    show (if (-9 : Int32) = -9 then bnd2 (f_X6_figure (0 : Int32) (9 : Int32) (nI q) (nI i + 0) T) (fun r3 w4 => some (r3, w4)) else some ((-9 : Int32), nI i + 0)) = _
    rw [if_pos rfl, Int32.add_zero, fg', if_neg (fun q => hi q.1), if_neg (fun q => hi q.1)]
    rfl
theorem j213_f {q N pl : Int32} {T P : Nat → Int32} {x1 x2 x3 x4 x5 x6 x7 : Int32} : f_X6_readLeg_J213 q N T pl P x1 x2 x3 x4 x5 x6 x7 (-9 : Int32) = some (0, pl, P) := if_pos rfl
theorem j192_f {q N pl : Int32} {T P : Nat → Int32} {x1 x2 x3 x4 x5 x6 : Int32} : f_X6_readLeg_J192 q N T pl P x1 x2 x3 x4 x5 x6 (-9 : Int32) = some (0, pl, P) := (if_pos rfl).trans j213_f
theorem j172_f {q N pl : Int32} {T P : Nat → Int32} {x1 x2 x3 x4 x5 : Int32} : f_X6_readLeg_J172 q N T pl P x1 x2 x3 x4 x5 (-9 : Int32) = some (0, pl, P) := (if_pos rfl).trans j192_f
theorem j154_f {q N pl : Int32} {T P : Nat → Int32} {x1 x2 x3 x4 : Int32} : f_X6_readLeg_J154 q N T pl P x1 x2 x3 x4 (-9 : Int32) = some (0, pl, P) := (if_pos rfl).trans j172_f
theorem nI_9 {v : Nat} (h : v < 100) : ¬ nI v = (-9 : Int32) := nI_n9 h
theorem j213_s {q N pl : Int32} {T page : Nat → Int32} {n e1 e2 b s w f o : Nat} {g : Nat → Nat → Nat} (hp : PP n g page) (hn : n < 8) (hw : w < 100) : ∃ P', f_X6_readLeg_J213 q N T pl page (nI (2 + 6 * n)) (nI f) (nI o) (nI e1) (nI e2) (nI b) (nI s) (nI w) = some (1, pl, P') ∧ PP (n + 1) (gadd g n (w7 (10 * e1 + e2) b s w f o)) P' := by
  have c0 : ∀ {β : Type} (x : Option β), chk (0 : Int32) 50 x = x := fun x => chk_0 (by omega) (by omega)
  have a0 : nI (2 + 6 * n) + (0 : Int32) = nI (2 + 6 * n + 0) := by rw [fa_lit 0, nI_add]
  have a1 : nI (2 + 6 * n) + (1 : Int32) = nI (2 + 6 * n + 1) := by rw [fa_lit 1, nI_add]
  have a2 : nI (2 + 6 * n) + (2 : Int32) = nI (2 + 6 * n + 2) := by rw [fa_lit 2, nI_add]
  have a3 : nI (2 + 6 * n) + (3 : Int32) = nI (2 + 6 * n + 3) := by rw [fa_lit 3, nI_add]
  have a4 : nI (2 + 6 * n) + (4 : Int32) = nI (2 + 6 * n + 4) := by rw [fa_lit 4, nI_add]
  have a5 : nI (2 + 6 * n) + (5 : Int32) = nI (2 + 6 * n + 5) := by rw [fa_lit 5, nI_add]
  have k0 : Int32.toNatClampNeg (0 : Int32) = 0 := rfl
  have l0 : Int32.toNatClampNeg (nI (2 + 6 * n + 0)) = 2 + 6 * n + 0 := cl_nI (by omega)
  have l1 : Int32.toNatClampNeg (nI (2 + 6 * n + 1)) = 2 + 6 * n + 1 := cl_nI (by omega)
  have l2 : Int32.toNatClampNeg (nI (2 + 6 * n + 2)) = 2 + 6 * n + 2 := cl_nI (by omega)
  have l3 : Int32.toNatClampNeg (nI (2 + 6 * n + 3)) = 2 + 6 * n + 3 := cl_nI (by omega)
  have l4 : Int32.toNatClampNeg (nI (2 + 6 * n + 4)) = 2 + 6 * n + 4 := cl_nI (by omega)
  have l5 : Int32.toNatClampNeg (nI (2 + 6 * n + 5)) = 2 + 6 * n + 5 := cl_nI (by omega)
  have d0 : ∀ {β : Type} (x : Option β), chk (nI (2 + 6 * n + 0)) 50 x = x := fun x => chk_nI (by omega) (by omega)
  have d1 : ∀ {β : Type} (x : Option β), chk (nI (2 + 6 * n + 1)) 50 x = x := fun x => chk_nI (by omega) (by omega)
  have d2 : ∀ {β : Type} (x : Option β), chk (nI (2 + 6 * n + 2)) 50 x = x := fun x => chk_nI (by omega) (by omega)
  have d3 : ∀ {β : Type} (x : Option β), chk (nI (2 + 6 * n + 3)) 50 x = x := fun x => chk_nI (by omega) (by omega)
  have d4 : ∀ {β : Type} (x : Option β), chk (nI (2 + 6 * n + 4)) 50 x = x := fun x => chk_nI (by omega) (by omega)
  have d5 : ∀ {β : Type} (x : Option β), chk (nI (2 + 6 * n + 5)) 50 x = x := fun x => chk_nI (by omega) (by omega)
  have et : (10 : Int32) * nI e1 + nI e2 = nI (10 * e1 + e2) := by rw [fa_lit 10, pk_mul, nI_add]
  unfold f_X6_readLeg_J213
  rw [if_neg (nI_9 hw)]
  simp only [nmd, c0, k0, et, a0, a1, a2, a3, a4, a5, l0, l1, l2, l3, l4, l5, d0, d1, d2, d3, d4, d5]
  generalize hQ : upd (upd (upd (upd (upd (upd page (2 + 6 * n + 0) (nI (10 * e1 + e2))) (2 + 6 * n + 1) (nI b)) (2 + 6 * n + 2) (nI s)) (2 + 6 * n + 3) (nI w)) (2 + 6 * n + 4) (nI f)) (2 + 6 * n + 5) (nI o) = Q
  have q0 : ∀ i, i < 2 + 6 * n → Q i = page i := fun i hi => by
    rw [← hQ, pk_un (by omega), pk_un (by omega), pk_un (by omega), pk_un (by omega), pk_un (by omega), pk_un (by omega)]
  rw [q0 0 (by omega), hp.1, nI_1]
  refine ⟨_, rfl, PP_add hp pk_us ?_ ?_ ⟨?_, ?_, ?_, ?_, ?_, ?_⟩⟩
  · rw [pk_un (by omega), q0 1 (by omega)]; exact hp.2.1
  · intro l hl j hj
    rw [pk_un (by omega), q0 _ (by omega)]
  · rw [pk_un (by omega), ← hQ, pk_un (by omega), pk_un (by omega), pk_un (by omega), pk_un (by omega), pk_un (by omega), pk_us]
  · rw [pk_un (by omega), ← hQ, pk_un (by omega), pk_un (by omega), pk_un (by omega), pk_un (by omega), pk_us]
  · rw [pk_un (by omega), ← hQ, pk_un (by omega), pk_un (by omega), pk_un (by omega), pk_us]
  · rw [pk_un (by omega), ← hQ, pk_un (by omega), pk_un (by omega), pk_us]
  · rw [pk_un (by omega), ← hQ, pk_un (by omega), pk_us]
  · rw [pk_un (by omega), ← hQ, pk_us]
theorem e_readLeg {q N k : Nat} {c : Nat → Nat} {T page : Nat → Int32} {g : Nat → Nat → Nat} (h : TX q c T) (hN1 : 1 ≤ N) (hN6 : N ≤ 6) (hp : PP k g page) (hpq : 2 + 8 * k < q) : (∃ t, ff q c N (2 + 8 * k) 8 0 = some t ∧ f_X6_readLeg (nI q) (nI (2 + 8 * k)) (nI N) T page = some (0, nI (2 + 8 * k + t), page)) ∨ (ff q c N (2 + 8 * k) 8 0 = none ∧ ∃ P', f_X6_readLeg (nI q) (nI (2 + 8 * k)) (nI N) T page = some (1, nI (2 + 8 * (k + 1)), P') ∧ PP (k + 1) (gadd g k (wT c (2 + 8 * k))) P') := by
  have hq := h.1
  obtain ⟨h1, h2⟩ := h.2 _ hpq
  have e108 : (nI (c (2 + 8 * k)) = (108 : Int32)) ↔ c (2 + 8 * k) = 108 := nI_eq (b := 108) (by omega) (by omega)
  have e8 : (nI k = (8 : Int32)) ↔ k = 8 := nI_eq (b := 8) (by omega) (by omega)
  have e1 : (nI N = (1 : Int32)) ↔ N = 1 := nI_eq (b := 1) (by omega) (by omega)
  have eb : (2 : Int32) + (6 : Int32) * nI k = nI (2 + 6 * k) := by rw [fa_lit 2, fa_lit 6, pk_mul, nI_add]
  have em : nI N - (1 : Int32) = nI (N - 1) := pk_sub (b := 1) hN1
  have c0 : ∀ {β : Type} (x : Option β), chk (0 : Int32) 50 x = x := fun x => chk_0 (by omega) (by omega)
  have k0 : Int32.toNatClampNeg (0 : Int32) = 0 := rfl
  generalize hP : 2 + 8 * k = p at *
  have f1 : f_X6_figure (0 : Int32) (nI (N - 1)) (nI q) (nI (p + 1)) T = _ := e_fig (a := 0) (b := N - 1) h (by omega) (by omega) (by omega)
  have f2 : f_X6_figure (0 : Int32) (nI (N - 1)) (nI q) (nI (p + 1 + 1)) T = _ := e_fig (a := 0) (b := N - 1) h (by omega) (by omega) (by omega)
  have f3 : f_X6_figure (0 : Int32) (9 : Int32) (nI q) (nI (p + 1 + 1 + 1)) T = _ := e_fig (a := 0) (b := 9) h (by omega) (by omega) (by omega)
  have f40 : f_X6_figure (0 : Int32) (9 : Int32) (nI q) (nI (p + 1 + 1 + 1 + 1)) T = _ := e_fig (a := 0) (b := 9) h (by omega) (by omega) (by omega)
  have f41 : f_X6_figure (1 : Int32) (9 : Int32) (nI q) (nI (p + 1 + 1 + 1 + 1)) T = _ := e_fig (a := 1) (b := 9) h (by omega) (by omega) (by omega)
  have f5 := e_bear (i := p + 1 + 1 + 1 + 1 + 1) h (by omega)
  have f6 : f_X6_figure (0 : Int32) (4 : Int32) (nI q) (nI (p + 1 + 1 + 1 + 1 + 1 + 1)) T = _ := e_fig (a := 0) (b := 4) h (by omega) (by omega) (by omega)
  have f7 : f_X6_figure (1 : Int32) (9 : Int32) (nI q) (nI (p + 1 + 1 + 1 + 1 + 1 + 1 + 1)) T = _ := e_fig (a := 1) (b := 9) h (by omega) (by omega) (by omega)
  unfold f_X6_readLeg
  rw [chk_nI (by omega) (by omega), cl_nI (by omega), h2]
  -- place 0
  by_cases o0 : okP c N p 0
  case neg =>
    refine Or.inl ⟨0, ff_f (fun q => o0 q.2), ?_⟩
    unfold okP at o0
    by_cases a : c p = 108
    · rw [if_pos (e108.mpr a), c0, k0, hp.1]
      by_cases b : k = 8
      · rw [if_pos (e8.mpr b)]; rfl
      · rw [if_neg (fun z => b (e8.mp z)), if_pos (e1.mpr (by omega))]; rfl
    · rw [if_neg (fun z => a (e108.mp z))]; rfl
  have o0' := o0
  unfold okP at o0'
  rw [if_pos (e108.mpr (by omega)), c0, k0, hp.1, if_neg (fun z => absurd (e8.mp z) (by omega)), if_neg (fun z => absurd (e1.mp z) (by omega)), nmdS, nI_1, c0, nmdS, eb, em, f1]
  -- place 1
  by_cases o1 : p + 1 < q ∧ okP c N p 1
  case neg =>
    refine Or.inl ⟨1, by rw [ff_s (by omega) o0]; exact ff_f o1, ?_⟩
    unfold okP at o1
    rw [if_neg (by omega)]
    rw [bnd2S, if_pos rfl]
    unfold f_X6_readLeg_J91
    rw [if_pos rfl]
  have o1' := o1.2
  unfold okP at o1'
  rw [if_pos (by omega)]
  rw [bnd2S, if_neg (nI_9 (by omega)), f2]
  -- place 2
  unfold f_X6_readLeg_J91
  by_cases o2 : p + 2 < q ∧ okP c N p 2
  case neg =>
    refine Or.inl ⟨2, by rw [ff_s (by omega) o0, ff_s o1.1 o1.2]; exact ff_f o2, ?_⟩
    by_cases a : p + 1 + 1 < q ∧ 0 ≤ vN (c (p + 1 + 1)) ∧ vN (c (p + 1 + 1)) ≤ N - 1
    · have e2 : vN (c (p + 1 + 1)) = vN (c (p + 1)) := by
        unfold okP at o2
        rw [show p + 1 + 1 = p + 2 by omega] at a ⊢
        omega
      rw [if_pos a]
      rw [bnd2S, if_neg (nI_9 (by omega)), if_pos (by rw [e2]), nI_s1]
      rfl
    · rw [if_neg a]
      rw [bnd2S, if_pos rfl]
  have o2' := o2.2
  unfold okP at o2'
  have E2 : p + 1 + 1 = p + 2 := by omega
  rw [if_pos (by rw [E2]; omega)]
  rw [bnd2S, if_neg (nI_9 (by rw [E2]; omega)), if_neg (fun q => by have := (nI_eq (by rw [E2]; omega) (by omega)).mp q; rw [E2] at this; omega), f3]
  -- place 3
  have E3 : p + 1 + 1 + 1 = p + 3 := by omega
  by_cases o3 : p + 3 < q ∧ okP c N p 3
  case neg =>
    refine Or.inl ⟨3, by rw [ff_s (by omega) o0, ff_s o1.1 o1.2, ff_s o2.1 o2.2]; exact ff_f o3, ?_⟩
    unfold okP at o3
    rw [if_neg (by rw [E3]; omega)]
    rw [bnd2S, if_pos rfl, j154_f]
  have o3' := o3.2
  unfold okP at o3'
  rw [if_pos (by rw [E3]; omega)]
  rw [bnd2S, if_neg (nI_9 (by rw [E3]; omega))]
  -- place 4
  have E4 : p + 1 + 1 + 1 + 1 = p + 4 := by omega
  unfold f_X6_readLeg_J149
  rw [f40, f41]
  by_cases o4 : p + 4 < q ∧ okP c N p 4
  case neg =>
    refine Or.inl ⟨4, by rw [ff_s (by omega) o0, ff_s o1.1 o1.2, ff_s o2.1 o2.2, ff_s o3.1 o3.2]; exact ff_f o4, ?_⟩
    unfold okP at o4
    by_cases z : vN (c (p + 1 + 1 + 1)) = 0
    · rw [if_pos (by rw [z]; rfl), if_neg (by rw [E4]; rw [E3] at z; omega)]
      rw [bnd2S, j154_f]
    · rw [if_neg (show ¬ nI (vN (c (p + 1 + 1 + 1))) = (0 : Int32) from fun q => z ((nI_eq (b := 0) (by rw [E3]; omega) (by omega)).mp q)), if_neg (by rw [E4]; rw [E3] at z; omega)]
      rw [bnd2S, j154_f]
  have o4' := o4.2
  unfold okP at o4'
  have step4 : ∀ (x : Option (Int32 × Int32 × (Nat → Int32))), (if nI (vN (c (p + 1 + 1 + 1))) = (0 : Int32) then x else x) = x := fun x => by split <;> rfl
  rw [if_pos (show p + 1 + 1 + 1 + 1 < q ∧ 0 ≤ vN (c (p + 1 + 1 + 1 + 1)) ∧ vN (c (p + 1 + 1 + 1 + 1)) ≤ 9 by rw [E4]; omega)]
  have hz : (if nI (vN (c (p + 1 + 1 + 1))) = (0 : Int32) then bnd2 (some (if p + 1 + 1 + 1 + 1 < q ∧ 1 ≤ vN (c (p + 1 + 1 + 1 + 1)) ∧ vN (c (p + 1 + 1 + 1 + 1)) ≤ 9 then (nI (vN (c (p + 1 + 1 + 1 + 1))), nI (p + 1 + 1 + 1 + 1 + 1)) else (-9, nI (p + 1 + 1 + 1 + 1)))) (fun r24 w25 => f_X6_readLeg_J154 (nI q) (nI N) T w25 page (nI (2 + 6 * k)) (nI (vN (c (p + 1)))) (nI (vN (c (p + 1 + 1)))) (nI (vN (c (p + 1 + 1 + 1)))) r24) else bnd2 (some (nI (vN (c (p + 1 + 1 + 1 + 1))), nI (p + 1 + 1 + 1 + 1 + 1))) (fun r24 w25 => f_X6_readLeg_J154 (nI q) (nI N) T w25 page (nI (2 + 6 * k)) (nI (vN (c (p + 1)))) (nI (vN (c (p + 1 + 1)))) (nI (vN (c (p + 1 + 1 + 1)))) r24)) = f_X6_readLeg_J154 (nI q) (nI N) T (nI (p + 1 + 1 + 1 + 1 + 1)) page (nI (2 + 6 * k)) (nI (vN (c (p + 1)))) (nI (vN (c (p + 1 + 1)))) (nI (vN (c (p + 1 + 1 + 1)))) (nI (vN (c (p + 1 + 1 + 1 + 1)))) := by
    by_cases z : vN (c (p + 1 + 1 + 1)) = 0
    · rw [if_pos (by rw [z]; rfl), if_pos (by rw [E4]; rw [E3] at z; omega)]
      rfl
    · rw [if_neg (show ¬ nI (vN (c (p + 1 + 1 + 1))) = (0 : Int32) from fun q => z ((nI_eq (b := 0) (by rw [E3]; omega) (by omega)).mp q))]
      rfl
  rw [hz]
  unfold f_X6_readLeg_J154
  rw [if_neg (nI_9 (by rw [E4]; omega)), f5]
  -- place 5
  have E5 : p + 1 + 1 + 1 + 1 + 1 = p + 5 := by omega
  by_cases o5 : p + 5 < q ∧ okP c N p 5
  case neg =>
    refine Or.inl ⟨5, by rw [ff_s (by omega) o0, ff_s o1.1 o1.2, ff_s o2.1 o2.2, ff_s o3.1 o3.2, ff_s o4.1 o4.2]; exact ff_f o5, ?_⟩
    unfold okP at o5
    rw [if_neg (by rw [E5]; omega)]
    rw [bnd2S, j172_f]
  have o5' := o5.2
  unfold okP at o5'
  rw [if_pos (by rw [E5]; omega)]
  rw [bnd2S]
  unfold f_X6_readLeg_J172
  rw [if_neg (nI_9 (by rw [E5]; omega)), f6]
  -- place 6
  have E6 : p + 1 + 1 + 1 + 1 + 1 + 1 = p + 6 := by omega
  by_cases o6 : p + 6 < q ∧ okP c N p 6
  case neg =>
    refine Or.inl ⟨6, by rw [ff_s (by omega) o0, ff_s o1.1 o1.2, ff_s o2.1 o2.2, ff_s o3.1 o3.2, ff_s o4.1 o4.2, ff_s o5.1 o5.2]; exact ff_f o6, ?_⟩
    unfold okP at o6
    rw [if_neg (by rw [E6]; omega)]
    rw [bnd2S, j192_f]
  have o6' := o6.2
  unfold okP at o6'
  rw [if_pos (by rw [E6]; omega)]
  rw [bnd2S]
  unfold f_X6_readLeg_J192
  rw [if_neg (nI_9 (by rw [E6]; omega)), f7]
  -- place 7
  have E7 : p + 1 + 1 + 1 + 1 + 1 + 1 + 1 = p + 7 := by omega
  by_cases o7 : p + 7 < q ∧ okP c N p 7
  case neg =>
    refine Or.inl ⟨7, by rw [ff_s (by omega) o0, ff_s o1.1 o1.2, ff_s o2.1 o2.2, ff_s o3.1 o3.2, ff_s o4.1 o4.2, ff_s o5.1 o5.2, ff_s o6.1 o6.2]; exact ff_f o7, ?_⟩
    unfold okP at o7
    rw [if_neg (by rw [E7]; omega)]
    rw [bnd2S, j213_f]
  have o7' := o7.2
  unfold okP at o7'
  rw [if_pos (by rw [E7]; omega)]
  rw [bnd2S, E2, E3, E4, E5, E6, E7]
  obtain ⟨P', s1, s2⟩ := j213_s (q := nI q) (N := nI N) (pl := nI (p + 7 + 1)) (T := T) (e1 := vN (c (p + 3))) (e2 := vN (c (p + 4))) (b := vN (c (p + 5))) (s := vN (c (p + 6))) (w := vN (c (p + 7))) (f := vN (c (p + 1))) (o := vN (c (p + 2))) hp (by omega) (by omega)
  refine Or.inr ⟨by rw [ff_s (by omega) o0, ff_s o1.1 o1.2, ff_s o2.1 o2.2, ff_s o3.1 o3.2, ff_s o4.1 o4.2, ff_s o5.1 o5.2, ff_s o6.1 o6.2, ff_s o7.1 o7.2]; rfl, P', ?_, s2⟩
  rw [s1, show p + 7 + 1 = 2 + 8 * (k + 1) by omega]
