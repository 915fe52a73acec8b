/-! ===== rows changed with each other ===== -/
def sw (A : Nat → Nat → Int) (r s : Nat) : Nat → Nat → Int := fun i => if i = r then A s else if i = s then A r else A i
theorem sw_l (A : Nat → Nat → Int) (r s : Nat) : sw A r s r = A s := if_pos rfl
theorem sw_r (A : Nat → Nat → Int) {r s : Nat} (h : s ≠ r) : sw A r s s = A r := (if_neg h).trans (if_pos rfl)
theorem sw_n (A : Nat → Nat → Int) {r s i : Nat} (h1 : i ≠ r) (h2 : i ≠ s) : sw A r s i = A i := (if_neg h1).trans (if_neg h2)
theorem rp_sw (A : Nat → Nat → Int) (r s k p : Nat) : rp (sw A r s) k (fun i => sw A r s i p) = sw (rp A k (fun i => A i p)) r s := by
  funext i c
  have e1 : ∀ i, rp (sw A r s) k (fun i => sw A r s i p) i c = if c = k then sw A r s i p else sw A r s i c := fun _ => rfl
  have e2 : ∀ i, rp A k (fun i => A i p) i c = if c = k then A i p else A i c := fun _ => rfl
  by_cases h2 : i = r
  · subst h2
    rw [e1, sw_l, sw_l, e2]
  · by_cases h3 : i = s
    · subst h3
      rw [e1, sw_r _ h2, sw_r _ h2, e2]
    · rw [e1, sw_n _ h2 h3, sw_n _ h2 h3, e2]
theorem sw_conj (A : Nat → Nat → Int) {r m s : Nat} (h1 : r < m) (h2 : m < s) : sw A r s = sw (sw (sw A r m) m s) r m := by
  funext i
  by_cases a : i = r
  · subst a
    rw [sw_l A, sw_l (sw (sw A i m) m s), sw_l (sw A i m), sw_n A (show s ≠ i by omega) (show s ≠ m by omega)]
  · by_cases b : i = m
    · subst b
      rw [sw_n A a (show i ≠ s by omega), sw_r (sw (sw A r i) i s) a, sw_n (sw A r i) (show r ≠ i by omega) (show r ≠ s by omega), sw_l A]
    · by_cases c : i = s
      · subst c
        rw [sw_r A a, sw_n (sw (sw A r m) m i) a b, sw_r (sw A r m) b, sw_r A (show m ≠ r by omega)]
      · rw [sw_n A a c, sw_n (sw (sw A r m) m s) a b, sw_n (sw A r m) b c, sw_n A a b]
def dZ (p : Nat) (A : Nat → Nat → Int) (i k : Nat) : Int := dt p (rp (rp A i (Ap A p)) k (Ap A (p + 1)))
theorem dt_sl2 {p k : Nat} (A : Nat → Nat → Int) (h : k < p) : dt (p + 1) (rp A k (Ap A (p + 1))) = dt p (rp A k (Ap A (p + 1))) * A p p - (A p (p + 1) * dt p (rp A k (Ap A p)) + sg (fun i => if i = k then 0 else A p i * dZ p A i k) p) := by
  rw [dt_sl A (Ap A (p + 1)) h]
  congr 1
  rw [sg_add (g := fun i => if i = k then A p (p + 1) * dt p (rp A k (Ap A p)) else 0) (h := fun i => if i = k then 0 else A p i * dZ p A i k) (fun i _ => ?_)]
  · rw [sg_one (k := k) h (fun i _ c => if_neg c), if_pos rfl]
  · by_cases c : i = k
    · rw [if_pos c, if_pos c, if_pos c, Int.add_zero]; rfl
    · rw [if_neg c, if_neg c, if_neg c, Int.zero_add]; rfl
def ZZ (p : Nat) (A : Nat → Nat → Int) (a b : Nat → Int) : Int := sg (fun k => sg (fun i => if i = k then 0 else b k * (a i * dZ p A i k)) p) p
theorem dt_two (p : Nat) (A : Nat → Nat → Int) : dt (p + 2) A = dt p A * (A p p * A (p + 1) (p + 1) - A (p + 1) p * A p (p + 1)) - A (p + 1) (p + 1) * sg (fun i => A p i * cX p A (Ap A p) i) p + A (p + 1) p * sg (fun i => A p i * cX p A (Ap A (p + 1)) i) p - A p p * sg (fun i => A (p + 1) i * cX p A (Ap A (p + 1)) i) p + A p (p + 1) * sg (fun i => A (p + 1) i * cX p A (Ap A p) i) p + ZZ p A (A p) (A (p + 1)) := by
  have e0 : dt (p + 2) A = dt (p + 1) A * A (p + 1) (p + 1) - (sg (fun k => A (p + 1) k * dt (p + 1) (rp A k (Ap A (p + 1)))) p + A (p + 1) p * dt (p + 1) (rp A p (Ap A (p + 1)))) := rfl
  have e1 : dt (p + 1) A = dt p A * A p p - sg (fun i => A p i * cX p A (Ap A p) i) p := rfl
  have e2 : dt (p + 1) (rp A p (Ap A (p + 1))) = dt p A * A p (p + 1) - sg (fun i => A p i * cX p A (Ap A (p + 1)) i) p := dt_se A _
  have e3 : sg (fun k => A (p + 1) k * dt (p + 1) (rp A k (Ap A (p + 1)))) p = A p p * sg (fun i => A (p + 1) i * cX p A (Ap A (p + 1)) i) p + (-1) * (A p (p + 1) * sg (fun i => A (p + 1) i * cX p A (Ap A p) i) p + 1 * ZZ p A (A p) (A (p + 1))) := by
    unfold ZZ
    rw [← sg_lin (f := fun k => A p (p + 1) * (A (p + 1) k * cX p A (Ap A p) k) + 1 * sg (fun i => if i = k then 0 else A (p + 1) k * (A p i * dZ p A i k)) p) (fun _ _ => rfl)]
    apply sg_lin
    intro k hk
    have e4 : sg (fun i => if i = k then 0 else A (p + 1) k * (A p i * dZ p A i k)) p = A (p + 1) k * sg (fun i => if i = k then 0 else A p i * dZ p A i k) p := sg_mul (fun i _ => by
      by_cases c : i = k
      · rw [if_pos c, if_pos c, Int.mul_zero]
      · rw [if_neg c, if_neg c])
    rw [dt_sl2 A hk, e4]
    unfold cX
    grind
  rw [e0, e1, e2, e3]
  grind
theorem ZZ_anti (p : Nat) (A : Nat → Nat → Int) (a b : Nat → Int) : ZZ p A b a = - ZZ p A a b := by
  have e : ZZ p A b a = (-1) * ZZ p A a b := by
    unfold ZZ
    rw [sg_swap]
    apply sg_mul
    intro k hk
    apply sg_mul
    intro i hi
    by_cases c : i = k
    · rw [if_pos c, if_pos c.symm, Int.mul_zero]
    · rw [if_neg c, if_neg (fun h => c h.symm)]
      have h : dZ p A k i = - dZ p A i k := by
        unfold dZ
        rcases Nat.lt_or_gt_of_ne c with d | d
        · have an := dt_anti (dt_alt p) A d hk (Ap A p) (Ap A (p + 1))
          rw [rp_comm A (Ap A (p + 1)) (Ap A p) (show k ≠ i by omega)] at an
          omega
        · have an := dt_anti (dt_alt p) A d hi (Ap A p) (Ap A (p + 1))
          rw [rp_comm A (Ap A (p + 1)) (Ap A p) (show i ≠ k by omega)] at an
          omega
      rw [h]
      grind
  rw [e]; omega
theorem dt_sw2 (p : Nat) (A : Nat → Nat → Int) : dt (p + 2) (sw A p (p + 1)) = - dt (p + 2) A := by
  have r1 : sw A p (p + 1) p = A (p + 1) := sw_l _ _ _
  have r2 : sw A p (p + 1) (p + 1) = A p := sw_r _ (by omega)
  have r3 : ∀ r, r < p → sw A p (p + 1) r = A r := fun r hr => sw_n _ (by omega) (by omega)
  have d0 : dt p (sw A p (p + 1)) = dt p A := dt_cong p (fun r hr c _ => by rw [r3 r hr])
  have d1 : ∀ j i, cX p (sw A p (p + 1)) (Ap (sw A p (p + 1)) j) i = cX p A (Ap A j) i := fun j i => dt_cong p (fun r hr c _ => by
    by_cases e : c = i
    · rw [e, rp_s, rp_s]
      show sw A p (p + 1) r j = A r j
      rw [r3 r hr]
    · rw [rp_n _ _ _ e, rp_n _ _ _ e, r3 r hr])
  have d2 : ∀ i k, dZ p (sw A p (p + 1)) i k = dZ p A i k := fun i k => dt_cong p (fun r hr c _ => by
    by_cases e : c = k
    · rw [e, rp_s, rp_s]
      show sw A p (p + 1) r (p + 1) = A r (p + 1)
      rw [r3 r hr]
    · rw [rp_n _ _ _ e, rp_n _ _ _ e]
      by_cases e2 : c = i
      · rw [e2, rp_s, rp_s]
        show sw A p (p + 1) r p = A r p
        rw [r3 r hr]
      · rw [rp_n _ _ _ e2, rp_n _ _ _ e2, r3 r hr])
  have d3 : ZZ p (sw A p (p + 1)) (A (p + 1)) (A p) = - ZZ p A (A p) (A (p + 1)) := by
    rw [← ZZ_anti]
    unfold ZZ
    simp only [d2]
  rw [dt_two p (sw A p (p + 1)), dt_two p A, r1, r2, d0, d3]
  simp only [d1]
  grind
theorem dt_sw : ∀ (p : Nat) (A : Nat → Nat → Int) (r s : Nat), r < s → s < p → dt p (sw A r s) = - dt p A
  | 0, _, _, s, _, h => absurd h (Nat.not_lt_zero s)
  | p + 1, A, r, s, h1, h2 => by
    have lo : ∀ (A : Nat → Nat → Int) (r s : Nat), r < s → s < p → dt (p + 1) (sw A r s) = - dt (p + 1) A := fun A r s h1 h2 => by
      have e1 : dt (p + 1) (sw A r s) = dt p (sw A r s) * sw A r s p p - sg (fun k => sw A r s p k * dt p (rp (sw A r s) k (fun i => sw A r s i p))) p := rfl
      have e2 : dt (p + 1) A = dt p A * A p p - sg (fun k => A p k * dt p (rp A k (fun i => A i p))) p := rfl
      have e3 : sg (fun k => sw A r s p k * dt p (rp (sw A r s) k (fun i => sw A r s i p))) p = (-1) * sg (fun k => A p k * dt p (rp A k (fun i => A i p))) p := sg_mul (fun k _ => by
        rw [rp_sw, dt_sw p _ r s h1 h2, sw_n A (show p ≠ r by omega) (show p ≠ s by omega)]; grind)
      rw [e1, e2, e3, dt_sw p A r s h1 h2, sw_n A (show p ≠ r by omega) (show p ≠ s by omega)]
      grind
    by_cases c : s < p
    · exact lo A r s h1 c
    · have e : s = p := by omega
      by_cases d : r + 1 = p
      · rw [e, ← d]
        exact dt_sw2 r A
      · obtain ⟨m, hm⟩ : ∃ m, p = m + 1 := ⟨p - 1, by omega⟩
        have g1 := lo A r m (by omega) (by omega)
        have g2 : dt (p + 1) (sw (sw A r m) m p) = - dt (p + 1) (sw A r m) := by
          rw [hm]
          exact dt_sw2 m _
        have g3 := lo (sw (sw A r m) m p) r m (by omega) (by omega)
        rw [e, sw_conj A (show r < m by omega) (show m < p by omega), g3, g2, g1]
        omega
/-! ===== the same without the stations that are off ===== -/
theorem cnt_s {P : Nat → Bool} {k : Nat} (h : P k = true) : cnt P (k + 1) = cnt P k + 1 := by
  show cnt P k + (if P k = true then 1 else 0) = _
  rw [if_pos h]
theorem cnt_n {P : Nat → Bool} {k : Nat} (h : P k = false) : cnt P (k + 1) = cnt P k := by
  show cnt P k + (if P k = true then 1 else 0) = _
  rw [h, if_neg (by decide)]; rfl
theorem cnt_mono {P : Nat → Bool} {k : Nat} : ∀ {p : Nat}, k ≤ p → cnt P k ≤ cnt P p
  | 0, h => by
    have : k = 0 := by omega
    rw [this]; exact Nat.le_refl _
  | p + 1, h => by
    by_cases c : k = p + 1
    · rw [c]; exact Nat.le_refl _
    · have h1 := cnt_mono (P := P) (k := k) (p := p) (by omega)
      show cnt P k ≤ cnt P p + (if P p = true then 1 else 0)
      omega
theorem cnt_lt {P : Nat → Bool} {k p : Nat} (h : k < p) (hk : P k = true) : cnt P k < cnt P p := by
  have h1 := cnt_s hk
  have h2 := cnt_mono (P := P) (k := k + 1) (p := p) (by omega)
  omega
theorem cnt_inj {P : Nat → Bool} {i j : Nat} (hi : P i = true) (hj : P j = true) (h : cnt P i = cnt P j) : i = j := by
  rcases Nat.lt_trichotomy i j with c | c | c
  · have := cnt_lt c hi; omega
  · exact c
  · have := cnt_lt c hj; omega
theorem cnt_le (P : Nat → Bool) : ∀ p, cnt P p ≤ p
  | 0 => Nat.le_refl 0
  | p + 1 => by
    have h := cnt_le P p
    show cnt P p + (if P p = true then 1 else 0) ≤ p + 1
    split <;> omega
theorem sg_cnt {P : Nat → Bool} {f h : Nat → Int} : ∀ {p : Nat}, (∀ k, k < p → f k = if P k = true then h (cnt P k) else 0) → sg f p = sg h (cnt P p)
  | 0, _ => rfl
  | p + 1, e => by
    have ih := sg_cnt (P := P) (f := f) (h := h) (p := p) (fun k hk => e k (by omega))
    have ep := e p (by omega)
    show sg f p + f p = _
    cases c : P p with
    | true =>
      rw [cnt_s c, ih, ep, if_pos c]; rfl
    | false =>
      rw [cnt_n c, ih, ep, c, if_neg (by decide), Int.add_zero]
theorem dt_cpt {P : Nat → Bool} : ∀ (p : Nat) {M G : Nat → Nat → Int}, (∀ i, i < p → ∀ j, j < p → P i = true → P j = true → M i j = G (cnt P i) (cnt P j)) → (∀ i, i < p → ∀ j, j < p → (P i = false ∨ P j = false) → M i j = if i = j then 1 else 0) → dt p M = dt (cnt P p) G
  | 0, _, _, _, _ => rfl
  | p + 1, M, G, h1, h2 => by
    have ih := dt_cpt p (M := M) (G := G) (fun i hi j hj => h1 i (by omega) j (by omega)) (fun i hi j hj => h2 i (by omega) j (by omega))
    have e0 : dt (p + 1) M = dt p M * M p p - sg (fun k => M p k * dt p (rp M k (fun r => M r p))) p := rfl
    cases hP : P p with
    | false =>
      rw [e0, cnt_n hP, ih, h2 p (by omega) p (by omega) (Or.inl hP), if_pos rfl, sg_zero (fun k hk => by rw [h2 p (by omega) k (by omega) (Or.inl hP), if_neg (by omega), Int.zero_mul]), Int.mul_one, Int.sub_zero]
    | true =>
      have e1 : dt (cnt P p + 1) G = dt (cnt P p) G * G (cnt P p) (cnt P p) - sg (fun k => G (cnt P p) k * dt (cnt P p) (rp G k (fun r => G r (cnt P p)))) (cnt P p) := rfl
      rw [e0, cnt_s hP, e1, ih, h1 p (by omega) p (by omega) hP hP, sg_cnt (P := P) (h := fun k => G (cnt P p) k * dt (cnt P p) (rp G k (fun r => G r (cnt P p)))) (fun k hk => ?_)]
      cases hk2 : P k with
      | false => rw [h2 p (by omega) k (by omega) (Or.inr hk2), if_neg (by omega), Int.zero_mul, if_neg (by decide)]
      | true =>
        rw [if_pos rfl, h1 p (by omega) k (by omega) hP hk2, dt_cpt p (M := rp M k (fun r => M r p)) (G := rp G (cnt P k) (fun r => G r (cnt P p))) (fun i hi j hj pi pj => ?_) (fun i hi j hj hh => ?_)]
        · by_cases e : j = k
          · rw [e, rp_s, rp_s]
            exact h1 i (by omega) p (by omega) pi hP
          · rw [rp_n _ _ _ e, rp_n _ _ _ (fun q => e (cnt_inj pj hk2 q))]
            exact h1 i (by omega) j (by omega) pi pj
        · by_cases e : j = k
          · rw [e, rp_s]
            have hi2 : P i = false := by
              rcases hh with h | h
              · exact h
              · rw [e, hk2] at h; cases h
            have ne : i ≠ k := fun q => by rw [q, hk2] at hi2; cases hi2
            rw [h2 i (by omega) p (by omega) (Or.inl hi2), if_neg (by omega), if_neg ne]
          · rw [rp_n _ _ _ e]
            exact h2 i (by omega) j (by omega) hh
