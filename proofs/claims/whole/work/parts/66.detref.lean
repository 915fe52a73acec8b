/-! ===== the reference's determinant ===== -/
theorem n5 (a b : Nat) : (5 : Int32) * nI a + nI b = nI (5 * a + b) := by rw [fa_lit 5, pk_mul, nI_add]
def wt (k c : Nat) : Nat := if c = k then 792 else 9
theorem bb_w : ∀ k, k < 6 → ∀ p, p < 6 → Bd p (wt k) ≤ 700000000 := by decide +kernel
theorem bb_v : ∀ k, k < 6 → ∀ p, p < 5 → ∀ j, j < 5 → p ≤ j → Bd p (wt k) * wt k j + fb_sm (fun m => wt k m * Bd p (fun c => if c = m then wt k j else wt k c)) p ≤ 700000000 := by decide +kernel
def Smw (w k : Nat) (B : Nat → Nat → Int) : Prop := ∀ r, r < w → ∀ c, c < w → (B r c).natAbs ≤ wt k c
theorem dt_w {w k p : Nat} {B : Nat → Nat → Int} (h : Smw w k B) (hk : k < 6) (hp : p ≤ w) (hw : w ≤ 5) : (dt p B).natAbs ≤ 700000000 := Nat.le_trans (dt_bd p (w := wt k) (fun r hr c hc => h r (by omega) c (by omega))) (bb_w k hk p (by omega))
theorem cM_w {w k p i j : Nat} {B : Nat → Nat → Int} (h : Smw w k B) (hk : k < 6) (hw : w ≤ 5) (hi : p ≤ i) (hi2 : i < w) (hj : p ≤ j) (hj2 : j < w) : (cM p B (Ap B j) i).natAbs ≤ 700000000 := by
  unfold cM
  have h1 := ab_mul (dt_bd p (A := B) (w := wt k) (fun r hr c hc => h r (by omega) c (by omega))) (h i hi2 j hj2)
  have h2 : (sg (fun m => B i m * cX p B (Ap B j) m) p).natAbs ≤ fb_sm (fun m => wt k m * Bd p (fun c => if c = m then wt k j else wt k c)) p := sg_ab (fun m hm => ab_mul (h i hi2 m (by omega)) (dt_bd p (fun r hr c hc => by
    by_cases e : c = m
    · rw [e, rp_s, if_pos rfl]; exact h r (by omega) j hj2
    · rw [rp_n _ _ _ e, if_neg e]; exact h r (by omega) c (by omega))))
  have h3 := bb_v k hk p (by omega) j (by omega) hj
  have e : Ap B j i = B i j := rfl
  rw [e]
  omega
theorem m1_lt {p : Nat} (hp : p < 6) : nI p + (-1 : Int32) < nI p := by
  have : ∀ p, p < 6 → nI p + (-1 : Int32) < nI p := by decide +kernel
  exact this p hp
theorem det_j {F w p i : Nat} {gram right : Nat → Int64} {kb74 : (Nat → Int64) → Int64 → Int64 → Int32 → Option (Int64 × (Nat → Int64))} {kb218 : (Nat → Int64) → Int64 → Int64 → Int32 → Int32 → Option (Int64 × (Nat → Int64))} {dv : Int64} (by_ : Int64) (hw : w ≤ 5) (hpi : p < i) (hi : i < w) (hd : ¬ dv = (0 : Int64)) : ∀ (m fuel : Nat) (r : Nat → Int64), p + m ≤ w → m < fuel → ∃ r', f_X6_determinant_L235 F (nI w) gram right kb74 kb218 fuel r dv by_ (nI p) (nI i) (nI (p + m) + (-1 : Int32)) = kb218 r' dv by_ (nI p) (nI (i + 1)) ∧ ∀ a, a < 5 → ∀ b, b < 5 → r' (5 * a + b) = if a = i ∧ p ≤ b ∧ b < p + m then (r (5 * a + b) * r (5 * p + p) - r (5 * a + p) * r (5 * p + b)) / dv else r (5 * a + b) := by
  intro m
  induction m with
  | zero =>
    intro fuel r hm hf
    obtain ⟨f, rfl⟩ : ∃ f, fuel = f + 1 := ⟨fuel - 1, by omega⟩
    refine ⟨r, ?_, fun a ha b hb => by rw [if_neg (by omega)]⟩
    show f_X6_determinant_B235 F _ _ _ _ _ _ _ _ _ _ _ _ = _
    unfold f_X6_determinant_B235
    rw [if_pos (show nI (p + 0) + (-1 : Int32) < nI p from m1_lt (by omega))]
    simp only [nmd, nI_1]
  | succ m ih =>
    intro fuel r hm hf
    obtain ⟨f, rfl⟩ : ∃ f, fuel = f + 1 := ⟨fuel - 1, by omega⟩
    obtain ⟨r', h1, h2⟩ := ih f (vp_updL r (5 * i + (p + m)) ((r (5 * i + (p + m)) * r (5 * p + p) - r (5 * i + p) * r (5 * p + (p + m))) / dv)) (by omega) (by omega)
    refine ⟨r', ?_, fun a ha b hb => ?_⟩
    · show f_X6_determinant_B235 F _ _ _ _ _ (f_X6_determinant_L235 F (nI w) gram right kb74 kb218 f) _ _ _ _ _ _ = _
      unfold f_X6_determinant_B235
      have e : nI (p + (m + 1)) + (-1 : Int32) = nI (p + m) := nI_m1 (p + m)
      have c : ¬ nI (p + m) < nI p := fun h => absurd ((nI_ltI (by omega) (by omega)).mp h) (by omega)
      rw [e, if_neg c, n5, n5, n5, n5]
      simp (disch := omega) only [chk_nI, cl_nI, nmd]
      unfold chkDL
      rw [if_neg hd]
      exact h1
    · rw [h2 a ha b hb]
      by_cases c : a = i ∧ p ≤ b ∧ b < p + m
      · obtain ⟨rfl, c1, c2⟩ := c
        rw [if_pos ⟨rfl, c1, c2⟩, if_pos ⟨rfl, c1, by omega⟩, pk_uLn (by omega), pk_uLn (by omega), pk_uLn (by omega), pk_uLn (by omega)]
      · rw [if_neg c]
        by_cases d : a = i ∧ b = p + m
        · obtain ⟨rfl, rfl⟩ := d
          rw [if_pos ⟨rfl, by omega, by omega⟩, pk_uLs]
        · rw [if_neg (by omega), pk_uLn (by omega)]
theorem det_i {F w p : Nat} {gram right : Nat → Int64} {kb74 : (Nat → Int64) → Int64 → Int64 → Int32 → Option (Int64 × (Nat → Int64))} {dv : Int64} (by_ : Int64) (hF : 8 < F) (hw : w ≤ 5) (hp : p < w) (hd : ¬ dv = (0 : Int64)) : ∀ (m i fuel : Nat) (r : Nat → Int64), m + i = w → p < i → m < fuel → ∃ r', f_X6_determinant_L218 F (nI w) gram right kb74 fuel r dv by_ (nI p) (nI i) = kb74 r' (r' (5 * p + p)) by_ (nI (p + 1)) ∧ ∀ a, a < 5 → ∀ b, b < 5 → r' (5 * a + b) = if i ≤ a ∧ a < w ∧ p ≤ b ∧ b < w then (r (5 * a + b) * r (5 * p + p) - r (5 * a + p) * r (5 * p + b)) / dv else r (5 * a + b) := by
  intro m
  induction m with
  | zero =>
    intro i fuel r hm hpi hf
    have e : i = w := by omega
    subst e
    obtain ⟨f, rfl⟩ : ∃ f, fuel = f + 1 := ⟨fuel - 1, by omega⟩
    refine ⟨r, ?_, fun a ha b hb => by rw [if_neg (by omega)]⟩
    show f_X6_determinant_B218 F _ _ _ _ _ _ _ _ _ _ = _
    unfold f_X6_determinant_B218
    rw [if_pos (nI_le (Nat.le_refl i) (by omega)), n5]
    simp (disch := omega) only [chk_nI, cl_nI, nmd, nI_1]
  | succ m ih =>
    intro i fuel r hm hpi hf
    obtain ⟨f, rfl⟩ : ∃ f, fuel = f + 1 := ⟨fuel - 1, by omega⟩
    obtain ⟨r1, a1, b1⟩ := det_j (F := F) (gram := gram) (right := right) (kb74 := kb74) (kb218 := f_X6_determinant_L218 F (nI w) gram right kb74 f) by_ hw hpi (show i < w by omega) hd (w - p) F r (by omega) (by omega)
    obtain ⟨r', h1, h2⟩ := ih (i + 1) f r1 (by omega) (by omega) (by omega)
    refine ⟨r', ?_, fun a ha b hb => ?_⟩
    · show f_X6_determinant_B218 F _ _ _ _ (f_X6_determinant_L218 F (nI w) gram right kb74 f) _ _ _ _ _ = _
      unfold f_X6_determinant_B218
      have c : ¬ nI w ≤ nI i := nI_ge (by omega) (by omega)
      rw [if_neg c, Int32.sub_eq_add_neg]
      simp only [nmd]
      rw [show p + (w - p) = w by omega] at a1
      rw [a1]
      exact h1
    · have g : ∀ b, b < 5 → r1 (5 * p + b) = r (5 * p + b) := fun b hb => by rw [b1 p (by omega) b hb, if_neg (by omega)]
      rw [h2 a ha b hb, g p (by omega), g b hb]
      by_cases c : i + 1 ≤ a ∧ a < w ∧ p ≤ b ∧ b < w
      · rw [if_pos c, if_pos ⟨by omega, c.2⟩, b1 a ha b hb, if_neg (by omega), b1 a ha p (by omega), if_neg (by omega)]
      · rw [if_neg c, b1 a ha b hb]
        by_cases d : a = i ∧ p ≤ b ∧ b < p + (w - p)
        · rw [if_pos d, if_pos (by omega)]
        · rw [if_neg d, if_neg (by omega)]
theorem det_s {F w p q : Nat} {gram right : Nat → Int64} {kb74 : (Nat → Int64) → Int64 → Int64 → Int32 → Option (Int64 × (Nat → Int64))} (dv by_ : Int64) (hw : w ≤ 5) (hp : p < w) (hq : q < w) (hpq : p ≠ q) : ∀ (m k fuel : Nat) (r : Nat → Int64), m + k = w → m < fuel → ∃ r', f_X6_determinant_L145 F (nI w) gram right kb74 fuel r dv by_ (nI p) (nI q) (nI k) = f_X6_determinant_J212 F (nI w) gram right kb74 r' dv by_ (nI p) ∧ ∀ a, a < 5 → ∀ b, b < 5 → r' (5 * a + b) = if k ≤ b ∧ b < w then (if a = p then r (5 * q + b) else if a = q then r (5 * p + b) else r (5 * a + b)) else r (5 * a + b) := by
  intro m
  induction m with
  | zero =>
    intro k fuel r hm hf
    have e : k = w := by omega
    subst e
    obtain ⟨f, rfl⟩ : ∃ f, fuel = f + 1 := ⟨fuel - 1, by omega⟩
    refine ⟨r, ?_, fun a ha b hb => by rw [if_neg (by omega)]⟩
    show f_X6_determinant_B145 F _ _ _ _ _ _ _ _ _ _ _ = _
    unfold f_X6_determinant_B145
    rw [if_pos (nI_le (Nat.le_refl k) (by omega))]
  | succ m ih =>
    intro k fuel r hm hf
    obtain ⟨f, rfl⟩ : ∃ f, fuel = f + 1 := ⟨fuel - 1, by omega⟩
    obtain ⟨r', h1, h2⟩ := ih (k + 1) f (vp_updL (vp_updL r (5 * q + k) (r (5 * p + k))) (5 * p + k) (r (5 * q + k))) (by omega) (by omega)
    refine ⟨r', ?_, fun a ha b hb => ?_⟩
    · show f_X6_determinant_B145 F _ _ _ _ (f_X6_determinant_L145 F (nI w) gram right kb74 f) _ _ _ _ _ _ = _
      unfold f_X6_determinant_B145
      have c : ¬ nI w ≤ nI k := nI_ge (by omega) (by omega)
      rw [if_neg c, n5, n5]
      simp (disch := omega) only [chk_nI, cl_nI, nmd, nI_1]
      exact h1
    · rw [h2 a ha b hb]
      by_cases c : k + 1 ≤ b ∧ b < w
      · rw [if_pos c, if_pos (show k ≤ b ∧ b < w from ⟨by omega, c.2⟩)]
        by_cases d : a = p
        · rw [if_pos d, if_pos d, pk_uLn (by omega), pk_uLn (by omega)]
        · rw [if_neg d, if_neg d]
          by_cases d2 : a = q
          · rw [if_pos d2, if_pos d2, pk_uLn (by omega), pk_uLn (by omega)]
          · rw [if_neg d2, if_neg d2, pk_uLn (by omega), pk_uLn (by omega)]
      · rw [if_neg c]
        by_cases d : b = k
        · subst d
          rw [if_pos ⟨Nat.le_refl _, by omega⟩]
          by_cases d : a = p
          · subst d
            rw [if_pos rfl, pk_uLs]
          · rw [if_neg d, pk_uLn (by omega)]
            by_cases d2 : a = q
            · subst d2
              rw [if_pos rfl, pk_uLs]
            · rw [if_neg d2, pk_uLn (by omega)]
        · rw [if_neg (by omega), pk_uLn (by omega), pk_uLn (by omega)]
theorem det_f {F w p : Nat} {gram right : Nat → Int64} {kb74 : (Nat → Int64) → Int64 → Int64 → Int32 → Option (Int64 × (Nat → Int64))} (dv by_ : Int64) (r : Nat → Int64) (hw : w ≤ 5) (hp : p < w) : ∀ (m q fuel : Nat), m + q = w → m < fuel → p ≤ q → (∀ a, p ≤ a → a < q → r (5 * a + p) = 0) → ∃ t, p ≤ t ∧ t ≤ w ∧ f_X6_determinant_L87 F (nI w) gram right kb74 fuel r dv by_ (nI p) (nI q) = f_X6_determinant_J119 F (nI w) gram right kb74 r dv by_ (nI p) (nI t) ∧ (∀ a, p ≤ a → a < t → r (5 * a + p) = 0) ∧ (t < w → ¬ r (5 * t + p) = 0) := by
  intro m
  induction m with
  | zero =>
    intro q fuel hm hf hq hz
    have e : q = w := by omega
    subst e
    obtain ⟨f, rfl⟩ : ∃ f, fuel = f + 1 := ⟨fuel - 1, by omega⟩
    refine ⟨q, hq, Nat.le_refl q, ?_, hz, fun h => absurd h (Nat.lt_irrefl q)⟩
    show f_X6_determinant_B87 F _ _ _ _ _ _ _ _ _ _ = _
    unfold f_X6_determinant_B87
    rw [if_pos (nI_le (Nat.le_refl q) (by omega))]
  | succ m ih =>
    intro q fuel hm hf hq hz
    obtain ⟨f, rfl⟩ : ∃ f, fuel = f + 1 := ⟨fuel - 1, by omega⟩
    have c : ¬ nI w ≤ nI q := nI_ge (by omega) (by omega)
    by_cases z : r (5 * q + p) = 0
    · obtain ⟨t, t1, t2, t3, t4⟩ := ih (q + 1) f (by omega) (by omega) (by omega) (fun a h1 h2 => by
        by_cases e : a = q
        · rw [e]; exact z
        · exact hz a h1 (by omega))
      refine ⟨t, t1, t2, ?_, t4⟩
      show f_X6_determinant_B87 F _ _ _ _ (f_X6_determinant_L87 F (nI w) gram right kb74 f) _ _ _ _ _ = _
      unfold f_X6_determinant_B87
      rw [if_neg c, n5]
      simp (disch := omega) only [chk_nI, cl_nI, nmd, nI_1]
      rw [if_pos z]
      exact t3
    · refine ⟨q, hq, by omega, ?_, hz, fun _ => z⟩
      show f_X6_determinant_B87 F _ _ _ _ (f_X6_determinant_L87 F (nI w) gram right kb74 f) _ _ _ _ _ = _
      unfold f_X6_determinant_B87
      rw [if_neg c, n5]
      simp (disch := omega) only [chk_nI, cl_nI, nmd, nI_1]
      rw [if_neg z]
/-- what stands behind p pivots, rows changed -/
def DI (w k : Nat) (W : Nat → Nat → Int) (p : Nat) (B : Nat → Nat → Int) (e : Int) (r : Nat → Int64) : Prop := (e = 1 ∨ e = -1) ∧ e * dt w B = dt w W ∧ (∀ q, q ≤ p → dt q B ≠ 0) ∧ Smw w k B ∧ ∀ i, p ≤ i → i < w → ∀ j, p ≤ j → j < w → r (5 * i + j) = iL (cM p B (Ap B j) i)
theorem cM_sw {B : Nat → Nat → Int} {p q j i : Nat} (hpq : p < q) : dt p (sw B p q) = dt p B ∧ (∀ m, cX p (sw B p q) (Ap (sw B p q) j) m = cX p B (Ap B j) m) ∧ cM p (sw B p q) (Ap (sw B p q) j) i = (if i = p then cM p B (Ap B j) q else if i = q then cM p B (Ap B j) p else cM p B (Ap B j) i) := by
  have r3 : ∀ r, r < p → sw B p q r = B r := fun r hr => sw_n _ (by omega) (by omega)
  have d0 : dt p (sw B p q) = dt p B := dt_cong p (fun r hr c _ => by rw [r3 r hr])
  have d1 : ∀ m, cX p (sw B p q) (Ap (sw B p q) j) m = cX p B (Ap B j) m := fun m => dt_cong p (fun r hr c _ => by
    by_cases e : c = m
    · rw [e, rp_s, rp_s]
      show sw B p q r j = B r j
      rw [r3 r hr]
    · rw [rp_n _ _ _ e, rp_n _ _ _ e, r3 r hr])
  refine ⟨d0, d1, ?_⟩
  have e : cM p (sw B p q) (Ap (sw B p q) j) i = dt p B * sw B p q i j - sg (fun k => sw B p q i k * cX p B (Ap B j) k) p := by
    unfold cM
    rw [d0]
    simp only [d1]
    rfl
  rw [e]
  by_cases h1 : i = p
  · rw [if_pos h1, h1, sw_l]; rfl
  · rw [if_neg h1]
    by_cases h2 : i = q
    · rw [if_pos h2, h2, sw_r _ (by omega)]; rfl
    · rw [if_neg h2, sw_n _ h1 h2]; rfl
theorem dt_none {w p : Nat} {B : Nat → Nat → Int} (hp : p < w) (hq : ∀ q, q ≤ p → dt q B ≠ 0) (hz : ∀ i, p ≤ i → i < w → cM p B (Ap B p) i = 0) : dt w B = 0 := by
  have hc : Cr p B := cr_all hq
  have h0 : ∀ i, i < w → sg (fun m => B i m * cX p B (Ap B p) m) p = dt p B * B i p := fun i hi => by
    by_cases c : i < p
    · exact hc (Ap B p) i c
    · have h := hz i (by omega) hi
      unfold cM at h
      have e : Ap B p i = B i p := rfl
      rw [e] at h
      omega
  have e1 := dt_sum (p := w) (k := p) B B (cX p B (Ap B p)) hp p
  rw [sg_zero (f := fun i => cX p B (Ap B p) i * dt w (rp B p (fun r => B r i))) (fun i hi => by
    rw [dt_alt w _ i p hi hp (fun r => by rw [rp_s, rp_n _ _ _ (by omega)]), Int.mul_zero])] at e1
  rw [dt_cong w (A := rp B p (fun r => sg (fun i => B r i * cX p B (Ap B p) i) p)) (B := rp B p (fun r => dt p B * B r p + 0 * B r p)) (fun r hr c hc2 => by
    by_cases e : c = p
    · rw [e, rp_s, rp_s, h0 r hr, Int.zero_mul, Int.add_zero]
    · rw [rp_n _ _ _ e, rp_n _ _ _ e]), dt_lin w B (dt p B) 0 (fun r => B r p) (fun r => B r p) hp, rp_self, Int.zero_mul, Int.add_zero] at e1
  rcases Int.mul_eq_zero.mp e1 with h | h
  · exact absurd h (hq p (Nat.le_refl p))
  · exact h
theorem iL_0 {a : Int} (h : a.natAbs < 2 ^ 63) (h0 : iL a = (0 : Int64)) : a = 0 := by
  have := congrArg Int64.toInt h0
  rw [iL_int h, lit_0L] at this
  exact this
theorem iL_neg (a : Int) : - iL a = iL (- a) := (Int64.ofInt_neg a).symm
/-- a step with its pivot in place -/
theorem det_st {F w k p : Nat} {W B : Nat → Nat → Int} {e : Int} {r : Nat → Int64} {gram right : Nat → Int64} {kb74 : (Nat → Int64) → Int64 → Int64 → Int32 → Option (Int64 × (Nat → Int64))} (hF : 8 < F) (hw : w ≤ 5) (hk : k < 6) (hp : p < w) (h : DI w k W p B e r) (hn : ¬ r (5 * p + p) = 0) : ∃ r', f_X6_determinant_J212 F (nI w) gram right kb74 r (iL (dt p B)) (iL e) (nI p) = kb74 r' (iL (dt (p + 1) B)) (iL e) (nI (p + 1)) ∧ DI w k W (p + 1) B e r' := by
  obtain ⟨h1, h2, h3, h4, h5⟩ := h
  have b0 := dt_w h4 hk (show p ≤ w by omega) hw
  have b1 := dt_w h4 hk (show p + 1 ≤ w by omega) hw
  have epp : r (5 * p + p) = iL (dt (p + 1) B) := by rw [h5 p (Nat.le_refl p) hp p (Nat.le_refl p) hp, dt_next]
  have hd1 : dt (p + 1) B ≠ 0 := fun z => hn (by rw [epp, z]; rfl)
  have hd0 := h3 p (Nat.le_refl p)
  have hc : Cr p B := cr_all h3
  obtain ⟨r', g1, g2⟩ := det_i (F := F) (gram := gram) (right := right) (kb74 := kb74) (iL e) hF hw hp (iL_ne (a := dt p B) (by omega) hd0) (w - (p + 1)) (p + 1) F r (by omega) (by omega) (by omega)
  refine ⟨r', ?_, h1, h2, fun q hq => ?_, h4, fun i hi hi2 j hj hj2 => ?_⟩
  · unfold f_X6_determinant_J212
    simp only [nmd, nI_1]
    rw [g1, g2 p (by omega) p (by omega), if_neg (by omega), epp]
  · by_cases c : q = p + 1
    · rw [c]; exact hd1
    · exact h3 q (by omega)
  · rw [g2 i (by omega) j (by omega), if_pos ⟨hi, hi2, by omega, hj2⟩, epp, h5 i (by omega) hi2 j (by omega) hj2, h5 i (by omega) hi2 p (by omega) hp, h5 p (Nat.le_refl p) hp j (by omega) hj2, iL_mul, iL_mul, iL_sub]
    have c1 := big_mul (cM_w (p := p) (i := i) (j := j) h4 hk hw (by omega) hi2 (by omega) hj2) b1
    have c2 := big_mul (cM_w (p := p) (i := i) (j := p) h4 hk hw (by omega) hi2 (by omega) hp) (cM_w (p := p) (i := p) (j := j) h4 hk hw (by omega) hp (by omega) hj2)
    refine iL_div (by omega) (by omega) hd0 ?_
    have u := up_m hc hd1 (Ap B j) i
    grind
theorem det_m {F w k : Nat} {W : Nat → Nat → Int} {gram right : Nat → Int64} (hF : 8 < F) (hw : w ≤ 5) (hk : k < 6) : ∀ (m p fuel : Nat) (B : Nat → Nat → Int) (e : Int) (r : Nat → Int64), m + p = w → m < fuel → DI w k W p B e r → ∃ r', f_X6_determinant_L74 F (nI w) gram right fuel r (iL (dt p B)) (iL e) (nI p) = some (iL (dt w W), r') := by
  intro m
  induction m with
  | zero =>
    intro p fuel B e r hm hf h
    have ep : p = w := by omega
    subst ep
    obtain ⟨f, rfl⟩ : ∃ f, fuel = f + 1 := ⟨fuel - 1, by omega⟩
    refine ⟨r, ?_⟩
    show f_X6_determinant_B74 F _ _ _ _ _ _ _ _ = _
    unfold f_X6_determinant_B74
    rw [if_pos (nI_le (Nat.le_refl p) (by omega)), iL_mul, h.2.1]
  | succ m ih =>
    intro p fuel B e r hm hf h
    have hp : p < w := by omega
    obtain ⟨f, rfl⟩ : ∃ f, fuel = f + 1 := ⟨fuel - 1, by omega⟩
    have c : ¬ nI w ≤ nI p := nI_ge hp (by omega)
    obtain ⟨t, t1, t2, t3, t4, t5⟩ := det_f (F := F) (gram := gram) (right := right) (kb74 := f_X6_determinant_L74 F (nI w) gram right f) (iL (dt p B)) (iL e) r hw hp (w - p) p F (by omega) (by omega) (Nat.le_refl p) (fun a h1 h2 => by omega)
    have e0 : f_X6_determinant_L74 F (nI w) gram right (f + 1) r (iL (dt p B)) (iL e) (nI p) = f_X6_determinant_J119 F (nI w) gram right (f_X6_determinant_L74 F (nI w) gram right f) r (iL (dt p B)) (iL e) (nI p) (nI t) := by
      show f_X6_determinant_B74 F _ _ _ (f_X6_determinant_L74 F (nI w) gram right f) _ _ _ _ = _
      unfold f_X6_determinant_B74
      rw [if_neg c]
      exact t3
    rw [e0]
    unfold f_X6_determinant_J119
    by_cases ct : t = w
    · subst ct
      rw [if_pos rfl]
      have hz : dt t B = 0 := dt_none hp h.2.2.1 (fun i hi hi2 => by
        have q := t4 i hi hi2
        rw [h.2.2.2.2 i hi hi2 p (Nat.le_refl p) hp] at q
        have q2 := cM_w (p := p) (i := i) (j := p) h.2.2.2.1 hk hw hi hi2 (Nat.le_refl p) hp
        exact iL_0 (by omega) q)
      have hz2 : dt t W = 0 := by rw [← h.2.1, hz, Int.mul_zero]
      rw [hz2]
      exact ⟨r, rfl⟩
    · rw [if_neg (fun q => ct ((nI_eq (by omega) (by omega)).mp q))]
      by_cases cp : t = p
      · subst cp
        rw [if_pos rfl]
        obtain ⟨r1, s1, s2⟩ := det_st (gram := gram) (right := right) (kb74 := f_X6_determinant_L74 F (nI w) gram right f) hF hw hk hp h (t5 hp)
        obtain ⟨r', s3⟩ := ih (t + 1) f B e r1 (by omega) (by omega) s2
        exact ⟨r', by rw [s1]; exact s3⟩
      · rw [if_neg (fun q => cp ((nI_eq (by omega) (by omega)).mp q))]
        have hpt : p < t := by omega
        have htw : t < w := by omega
        obtain ⟨h1, h2, h3, h4, h5⟩ := h
        obtain ⟨r0, a1, a2⟩ := det_s (F := F) (gram := gram) (right := right) (kb74 := f_X6_determinant_L74 F (nI w) gram right f) (iL (dt p B)) (- iL e) hw hp htw (by omega) w 0 F r (by omega) (by omega)
        have hB : DI w k W p (sw B p t) (- e) r0 := by
          refine ⟨by omega, ?_, fun q hq => ?_, fun x hx y hy => ?_, fun i hi hi2 j hj hj2 => ?_⟩
          · rw [dt_sw w B p t hpt htw, ← h2]; grind
          · rw [dt_cong q (A := sw B p t) (B := B) (fun x hx y _ => by rw [sw_n B (by omega) (by omega)])]
            exact h3 q hq
          · by_cases x1 : x = p
            · rw [x1, sw_l]; exact h4 t htw y hy
            · by_cases x2 : x = t
              · rw [x2, sw_r _ (by omega)]; exact h4 p hp y hy
              · rw [sw_n _ x1 x2]; exact h4 x hx y hy
          · rw [a2 i (by omega) j (by omega), if_pos ⟨Nat.zero_le _, hj2⟩, (cM_sw (j := j) (i := i) hpt).2.2]
            by_cases x1 : i = p
            · rw [if_pos x1, if_pos x1]; exact h5 t (by omega) htw j hj hj2
            · rw [if_neg x1, if_neg x1]
              by_cases x2 : i = t
              · rw [if_pos x2, if_pos x2]; exact h5 p (Nat.le_refl p) hp j hj hj2
              · rw [if_neg x2, if_neg x2]; exact h5 i hi hi2 j hj hj2
        have hn : ¬ r0 (5 * p + p) = 0 := by
          rw [a2 p (by omega) p (by omega), if_pos ⟨Nat.zero_le _, hp⟩, if_pos rfl]
          exact t5 htw
        have ed : dt p (sw B p t) = dt p B := (cM_sw (j := 0) (i := 0) hpt).1
        obtain ⟨r1, s1, s2⟩ := det_st (gram := gram) (right := right) (kb74 := f_X6_determinant_L74 F (nI w) gram right f) hF hw hk hp hB hn
        obtain ⟨r', s3⟩ := ih (p + 1) f (sw B p t) (- e) r1 (by omega) (by omega) s2
        refine ⟨r', ?_⟩
        simp only [nmd]
        rw [show (0 : Int32) = nI 0 from rfl, a1, iL_neg, ← ed, s1]
        exact s3
theorem det_12 {F w i : Nat} {gram right : Nat → Int64} {kb2 : (Nat → Int64) → Int32 → Int32 → Option (Int64 × (Nat → Int64))} (x1 : Int32) (hw : w ≤ 5) (hi : i < w) : ∀ (m j fuel : Nat) (r : Nat → Int64), m + j = w → m < fuel → ∃ r', f_X6_determinant_L12 F (nI w) gram right kb2 fuel r x1 (nI i) (nI j) = kb2 r' x1 (nI (i + 1)) ∧ ∀ a, a < 5 → ∀ b, b < 5 → r' (5 * a + b) = if a = i ∧ j ≤ b ∧ b < w then (if nI b = x1 then right i else gram (5 * i + b)) else r (5 * a + b) := by
  intro m
  induction m with
  | zero =>
    intro j fuel r hm hf
    have e : j = w := by omega
    subst e
    obtain ⟨f, rfl⟩ : ∃ f, fuel = f + 1 := ⟨fuel - 1, by omega⟩
    refine ⟨r, ?_, fun a ha b hb => by rw [if_neg (by omega)]⟩
    show f_X6_determinant_B12 F _ _ _ _ _ _ _ _ _ = _
    unfold f_X6_determinant_B12
    rw [if_pos (nI_le (Nat.le_refl j) (by omega))]
    simp only [nmd, nI_1]
  | succ m ih =>
    intro j fuel r hm hf
    obtain ⟨f, rfl⟩ : ∃ f, fuel = f + 1 := ⟨fuel - 1, by omega⟩
    have c : ¬ nI w ≤ nI j := nI_ge (by omega) (by omega)
    obtain ⟨r', h1, h2⟩ := ih (j + 1) f (vp_updL r (5 * i + j) (if nI j = x1 then right i else gram (5 * i + j))) (by omega) (by omega)
    refine ⟨r', ?_, fun a ha b hb => ?_⟩
    · show f_X6_determinant_B12 F _ _ _ _ (f_X6_determinant_L12 F (nI w) gram right kb2 f) _ _ _ _ = _
      unfold f_X6_determinant_B12 f_X6_determinant_J53
      rw [if_neg c, n5]
      simp (disch := omega) only [chk_nI, cl_nI, nmd, nI_1]
      by_cases d : nI j = x1
      · rw [if_pos d] at h1 ⊢
        exact h1
      · rw [if_neg d] at h1 ⊢
        exact h1
    · rw [h2 a ha b hb]
      by_cases d : a = i ∧ j + 1 ≤ b ∧ b < w
      · rw [if_pos d, if_pos (show a = i ∧ j ≤ b ∧ b < w from ⟨d.1, by omega, d.2.2⟩)]
      · rw [if_neg d]
        by_cases d2 : a = i ∧ b = j
        · obtain ⟨rfl, rfl⟩ := d2
          rw [pk_uLs, if_pos (show a = a ∧ b ≤ b ∧ b < w from ⟨rfl, Nat.le_refl _, by omega⟩)]
        · rw [pk_uLn (by omega), if_neg (by omega)]
theorem det_2 {F w : Nat} {gram right : Nat → Int64} (x1 : Int32) (hF : 8 < F) (hw : w ≤ 5) : ∀ (m i fuel : Nat) (r : Nat → Int64), m + i = w → m < fuel → ∃ r', f_X6_determinant_L2 F (nI w) gram right fuel r x1 (nI i) = f_X6_determinant_L74 F (nI w) gram right F r' (1 : Int64) (1 : Int64) (0 : Int32) ∧ ∀ a, a < 5 → ∀ b, b < 5 → r' (5 * a + b) = if i ≤ a ∧ a < w ∧ b < w then (if nI b = x1 then right a else gram (5 * a + b)) else r (5 * a + b) := by
  intro m
  induction m with
  | zero =>
    intro i fuel r hm hf
    have e : i = w := by omega
    subst e
    obtain ⟨f, rfl⟩ : ∃ f, fuel = f + 1 := ⟨fuel - 1, by omega⟩
    refine ⟨r, ?_, fun a ha b hb => by rw [if_neg (by omega)]⟩
    show f_X6_determinant_B2 F _ _ _ _ _ _ _ = _
    unfold f_X6_determinant_B2
    rw [if_pos (nI_le (Nat.le_refl i) (by omega))]
  | succ m ih =>
    intro i fuel r hm hf
    obtain ⟨f, rfl⟩ : ∃ f, fuel = f + 1 := ⟨fuel - 1, by omega⟩
    have c : ¬ nI w ≤ nI i := nI_ge (by omega) (by omega)
    obtain ⟨r1, a1, b1⟩ := det_12 (F := F) (gram := gram) (right := right) (kb2 := f_X6_determinant_L2 F (nI w) gram right f) x1 hw (show i < w by omega) w 0 F r (by omega) (by omega)
    obtain ⟨r', h1, h2⟩ := ih (i + 1) f r1 (by omega) (by omega)
    refine ⟨r', ?_, fun a ha b hb => ?_⟩
    · show f_X6_determinant_B2 F _ _ _ (f_X6_determinant_L2 F (nI w) gram right f) _ _ _ = _
      unfold f_X6_determinant_B2
      rw [if_neg c, show (0 : Int32) = nI 0 from rfl, a1]
      exact h1
    · rw [h2 a ha b hb]
      by_cases d : i + 1 ≤ a ∧ a < w ∧ b < w
      · rw [if_pos d, if_pos (show i ≤ a ∧ a < w ∧ b < w from ⟨by omega, d.2⟩)]
      · rw [if_neg d, b1 a ha b hb]
        by_cases d2 : a = i ∧ 0 ≤ b ∧ b < w
        · rw [if_pos d2, if_pos (show i ≤ a ∧ a < w ∧ b < w by omega), d2.1]
        · rw [if_neg d2, if_neg (by omega)]
theorem e_det {F w k : Nat} {W : Nat → Nat → Int} {gram right : Nat → Int64} (x1 : Int32) (work : Nat → Int64) (hF : 8 < F) (hw : w ≤ 5) (hk : k < 6) (hS : Smw w k W) (hW : ∀ a, a < w → ∀ b, b < w → (if nI b = x1 then right a else gram (5 * a + b)) = iL (W a b)) : ∃ r', f_X6_determinant F x1 (nI w) gram right work = some (iL (dt w W), r') := by
  obtain ⟨r1, a1, b1⟩ := det_2 (gram := gram) (right := right) x1 hF hw w 0 F work (by omega) (by omega)
  obtain ⟨r', h⟩ := det_m (W := W) (gram := gram) (right := right) hF hw hk w 0 F W 1 r1 (by omega) (by omega) ⟨Or.inl rfl, Int.one_mul _, fun q hq => by
    have : q = 0 := by omega
    rw [this]; exact Int.one_ne_zero, hS, fun i hi hi2 j hj hj2 => by
    rw [b1 i (by omega) j (by omega), if_pos ⟨hi, hi2, hj2⟩, hW i hi2 j hj2]
    unfold cM Ap
    show iL (W i j) = iL (1 * W i j - 0)
    rw [Int.one_mul, Int.sub_zero]⟩
  exact ⟨r', by
    unfold f_X6_determinant
    rw [show (0 : Int32) = nI 0 from rfl, a1]
    exact h⟩
