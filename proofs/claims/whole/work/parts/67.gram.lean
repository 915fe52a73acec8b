/-! ===== the reference's sums ===== -/
def onK (K : Nat) : Nat → Bool := fun i => K.testBit (i + 1)
/-- a station's column; 9: none -/
def cl (K s : Nat) : Nat := if s = 0 then 9 else if K.testBit s = true then cnt (onK K) (s - 1) else 9
def nC (c : Nat) : Int32 := if c = 9 then -9 else nI c
theorem nC_9 : nC 9 = -9 := rfl
theorem nC_n {c : Nat} (h : c < 5) : nC c = nI c := if_neg (by omega)
theorem cl_or (K : Nat) {s : Nat} (hs : s < 6) : cl K s = 9 ∨ cl K s < 5 := by
  unfold cl
  by_cases c : s = 0
  · rw [if_pos c]; exact Or.inl rfl
  · rw [if_neg c]
    by_cases d : K.testBit s = true
    · rw [if_pos d]
      have := cnt_le (onK K) (s - 1)
      exact Or.inr (by omega)
    · rw [if_neg d]; exact Or.inl rfl
theorem cl_on {K i : Nat} (h : onK K i = true) : cl K (i + 1) = cnt (onK K) i := by
  unfold cl
  have h' : K.testBit (i + 1) = true := h
  rw [if_neg (by omega), if_pos h']
  rfl
theorem cols_in {F K : Nat} (hK : K < 64) : ∀ (k s fuel : Nat) (col : Nat → Int32), k + s = 6 → k < fuel → (∀ t, t < s → col t = nC (cl K t)) → ∃ w, f_X6_layColumns_L7 F fuel (nI (cnt (onK K) (s - 1))) col (nI K) (nI s) = some (nI (cnt (onK K) 5), w) ∧ ∀ t, t < 6 → w t = nC (cl K t) := by
  intro k
  induction k with
  | zero =>
    intro s fuel col hk hf h
    have e : s = 6 := by omega
    subst e
    obtain ⟨f, rfl⟩ : ∃ f, fuel = f + 1 := ⟨fuel - 1, by omega⟩
    refine ⟨col, ?_, h⟩
    show f_X6_layColumns_B7 F _ _ _ _ _ = _
    unfold f_X6_layColumns_B7
    rw [if_pos (show (6 : Int32) ≤ nI 6 from nI_le (Nat.le_refl 6) (by omega))]
  | succ k ih =>
    intro s fuel col hk hf h
    obtain ⟨f, rfl⟩ : ∃ f, fuel = f + 1 := ⟨fuel - 1, by omega⟩
    have c : ¬ (6 : Int32) ≤ nI s := fun h => absurd ((nI_leI (a := 6) (by omega) (by omega)).mp h) (by omega)
    have hcol : ∀ x, x = nC (cl K s) → ∀ t, t < s + 1 → upd col s x t = nC (cl K t) := fun x hx t ht => by
      by_cases e : t = s
      · rw [e, pk_us, hx]
      · rw [pk_un e]; exact h t (by omega)
    have no : K.testBit s = false ∨ s = 0 → f_X6_layColumns_J29 F (f_X6_layColumns_L7 F f) (nI (cnt (onK K) (s - 1))) col (nI K) (nI s) = f_X6_layColumns_L7 F f (nI (cnt (onK K) (s + 1 - 1))) (upd col s (-9)) (nI K) (nI (s + 1)) := fun hh => by
      have ec : cnt (onK K) (s + 1 - 1) = cnt (onK K) (s - 1) := by
        rcases hh with hh | hh
        · by_cases e : s = 0
          · rw [e]
          · obtain ⟨t, rfl⟩ : ∃ t, s = t + 1 := ⟨s - 1, by omega⟩
            exact cnt_n hh
        · rw [hh]
      rw [ec]
      unfold f_X6_layColumns_J29 f_X6_layColumns_J30 f_X6_layColumns_J49 f_X6_layColumns_J64
      rw [if_pos rfl, if_pos rfl]
      simp (disch := omega) only [nmd, chk_nI, cl_nI, nI_1, Int32.add_zero]
    by_cases e0 : s = 0
    · obtain ⟨w, h1, h2⟩ := ih (s + 1) f (upd col s (-9)) (by omega) (by omega) (hcol _ (by rw [e0]; rfl))
      refine ⟨w, ?_, h2⟩
      show f_X6_layColumns_B7 F (f_X6_layColumns_L7 F f) _ _ _ _ = _
      unfold f_X6_layColumns_B7
      rw [if_neg c, if_pos (show nI s ≤ (0 : Int32) by rw [e0]; decide), no (Or.inr e0)]
      exact h1
    · have c0 : ¬ nI s ≤ (0 : Int32) := fun h => absurd ((nI_leI (b := 0) (by omega) (by omega)).mp h) (by omega)
      cases hb : K.testBit s with
      | false =>
        obtain ⟨w, h1, h2⟩ := ih (s + 1) f (upd col s (-9)) (by omega) (by omega) (hcol _ (by unfold cl; rw [if_neg e0, hb, if_neg (by decide)]; rfl))
        refine ⟨w, ?_, h2⟩
        show f_X6_layColumns_B7 F (f_X6_layColumns_L7 F f) _ _ _ _ = _
        unfold f_X6_layColumns_B7
        rw [if_neg c, if_neg c0, e_has6 (by omega) (by omega), bnd1_some', hb, if_neg (show ¬ false = true by decide), if_pos rfl, no (Or.inl hb)]
        exact h1
      | true =>
        obtain ⟨t, rfl⟩ : ∃ t, s = t + 1 := ⟨s - 1, by omega⟩
        have hon : onK K t = true := hb
        have hle := cnt_le (onK K) t
        obtain ⟨w, h1, h2⟩ := ih (t + 1 + 1) f (upd col (t + 1) (nI (cnt (onK K) t))) (by omega) (by omega) (hcol _ (by rw [cl_on hon, nC_n (by omega)]))
        refine ⟨w, ?_, h2⟩
        show f_X6_layColumns_B7 F (f_X6_layColumns_L7 F f) _ _ _ _ = _
        unfold f_X6_layColumns_B7 f_X6_layColumns_J30 f_X6_layColumns_J49 f_X6_layColumns_J64
        rw [if_neg c, if_neg c0, e_has6 (by omega) (by omega), bnd1_some', hb, if_pos rfl, if_neg (show ¬ (1 : Int32) = 0 by decide), if_neg (show ¬ (1 : Int32) = 0 by decide), if_neg (show ¬ (1 : Int32) = 0 by decide)]
        simp (disch := omega) only [nmd, chk_nI, cl_nI, nI_1, Nat.add_sub_cancel]
        rw [show t + 1 + 1 - 1 = t + 1 by omega, cnt_s hon] at h1
        exact h1
theorem upa (G : Nat → Int64) (k j : Nat) (x : Int64) : vp_updL G k (G k + x) j = G j + (if j = k then x else 0) := by
  by_cases c : j = k
  · subst c; rw [pk_uLs, if_pos rfl]
  · rw [pk_uLn c, if_neg c, Int64.add_zero]
theorem ups (G : Nat → Int64) (k j : Nat) (x : Int64) : vp_updL G k (G k - x) j = G j + (if j = k then -x else 0) := by
  rw [Int64.sub_eq_add_neg]; exact upa G k j (-x)
theorem ix5 {a b c d : Nat} (hb : b < 5) (hd : d < 5) : (5 * a + b = 5 * c + d) ↔ (a = c ∧ b = d) := by omega
theorem gr_194 {F cf ct : Nat} {sines p1 : Nat → Int32} {kb : Int32 → (Nat → Int32) → (Nat → Int64) → (Nat → Int64) → Int32 → Int32 → Int32 → Int32 → Option ((Int32) × (Nat → Int32) × (Nat → Int64) × (Nat → Int64))} (wide : Int32) (col : Nat → Int32) (G R : Nat → Int64) (x2 x3 x4 x5 : Int32) (hf : cf = 9 ∨ cf < 5) (ht : ct = 9 ∨ ct < 5) : ∃ G', f_X6_layGram_J194 F sines p1 kb wide col G R x2 x3 x4 x5 (nC cf) (nC ct) = kb wide col G' R x2 x3 x4 (x5 + 1) ∧ ∀ a, a < 5 → ∀ b, b < 5 → G' (5 * a + b) = G (5 * a + b) + iL ((if a = cf ∧ b = ct then -1 else 0) + (if a = ct ∧ b = cf then -1 else 0)) := by
  unfold f_X6_layGram_J194 f_X6_layGram_J240
  rcases hf with rfl | hf
  · refine ⟨G, ?_, fun a ha b hb => ?_⟩
    · rw [nC_9, if_pos rfl]; rfl
    · rw [if_neg (by omega), if_neg (by omega)]; exact (Int64.add_zero _).symm
  · rcases ht with rfl | ht
    · refine ⟨G, ?_, fun a ha b hb => ?_⟩
      · rw [nC_n hf, nC_9, if_neg (nI_n9 (by omega)), if_pos rfl]; rfl
      · rw [if_neg (by omega), if_neg (by omega)]; exact (Int64.add_zero _).symm
    · rw [nC_n hf, nC_n ht, if_neg (nI_n9 (by omega)), if_neg (nI_n9 (by omega)), n5, n5]
      simp (disch := omega) only [nmd, chk_nI, cl_nI]
      refine ⟨_, rfl, fun a ha b hb => ?_⟩
      rw [ups, ups, Int64.add_assoc, show (-1 : Int64) = iL (-1) from rfl, it_L, it_L, iL_add]
      simp only [ix5 hb ht, ix5 hb hf]
theorem gr_158 {F cf ct : Nat} {sines p1 : Nat → Int32} {kb : Int32 → (Nat → Int32) → (Nat → Int64) → (Nat → Int64) → Int32 → Int32 → Int32 → Int32 → Option ((Int32) × (Nat → Int32) × (Nat → Int64) × (Nat → Int64))} (wide : Int32) (col : Nat → Int32) (G R : Nat → Int64) (x2 x3 x4 x5 x8 : Int32) {v : Int} (h8 : x8.toInt64 = iL v) (hf : cf = 9 ∨ cf < 5) (ht : ct = 9 ∨ ct < 5) : ∃ G' R', f_X6_layGram_J158 F sines p1 kb wide col G R x2 x3 x4 x5 (nC cf) (nC ct) x8 = kb wide col G' R' x2 x3 x4 (x5 + 1) ∧ (∀ a, a < 5 → ∀ b, b < 5 → G' (5 * a + b) = G (5 * a + b) + iL ((if a = ct ∧ b = ct then 1 else 0) + ((if a = cf ∧ b = ct then -1 else 0) + (if a = ct ∧ b = cf then -1 else 0)))) ∧ ∀ a, a < 5 → R' a = R a + iL (if a = ct then v else 0) := by
  unfold f_X6_layGram_J158
  rcases ht with rfl | ht
  · obtain ⟨G', h1, h2⟩ := gr_194 (F := F) (sines := sines) (p1 := p1) (kb := kb) wide col G R x2 x3 x4 x5 hf (Or.inl rfl)
    refine ⟨G', R, ?_, fun a ha b hb => ?_, fun a ha => ?_⟩
    · rw [nC_9] at h1 ⊢
      rw [if_pos rfl]; exact h1
    · rw [h2 a ha b hb, if_neg (show ¬ (a = 9 ∧ b = 9) by omega), Int.zero_add]
    · rw [if_neg (by omega)]; exact (Int64.add_zero _).symm
  · obtain ⟨G', h1, h2⟩ := gr_194 (F := F) (sines := sines) (p1 := p1) (kb := kb) wide col (vp_updL G (5 * ct + ct) (G (5 * ct + ct) + 1)) (vp_updL R ct (R ct + iL v)) x2 x3 x4 x5 hf (Or.inr ht)
    refine ⟨G', vp_updL R ct (R ct + iL v), ?_, fun a ha b hb => ?_, fun a ha => ?_⟩
    · rw [nC_n ht] at h1 ⊢
      rw [if_neg (nI_n9 (by omega)), n5, h8]
      simp (disch := omega) only [nmd, chk_nI, cl_nI]
      exact h1
    · rw [h2 a ha b hb, upa, Int64.add_assoc, show (1 : Int64) = iL 1 from rfl, it_L, iL_add]
      simp only [ix5 hb ht]
    · rw [upa, it_L]
def eC (K f t a : Nat) : Int := (if cl K t = a then 1 else 0) - (if cl K f = a then 1 else 0)
def ec (g : Nat → Nat → Nat) (K l a : Nat) : Int := eC K (g l 4) (g l 5) a
theorem eC_mul {cf ct a b : Nat} (h : cf ≠ ct ∨ cf = 9) (ha : a < 5) : (if a = cf ∧ b = cf then (1 : Int) else 0) + ((if a = ct ∧ b = ct then 1 else 0) + ((if a = cf ∧ b = ct then -1 else 0) + (if a = ct ∧ b = cf then -1 else 0))) = ((if ct = a then 1 else 0) - (if cf = a then 1 else 0)) * ((if ct = b then 1 else 0) - (if cf = b then 1 else 0)) := by
  by_cases a1 : a = cf
  · subst a1
    by_cases a2 : a = ct
    · omega
    · by_cases b1 : b = a
      · subst b1
        simp [a2, Ne.symm a2]
      · by_cases b2 : b = ct
        · subst b2
          simp [a2, Ne.symm a2]
        · simp [a2, Ne.symm a2, b1, Ne.symm b1, b2, Ne.symm b2]
  · by_cases a2 : a = ct
    · subst a2
      by_cases b1 : b = cf
      · subst b1
        simp [a1, Ne.symm a1]
      · by_cases b2 : b = a
        · subst b2
          simp [a1, Ne.symm a1]
        · simp [a1, Ne.symm a1, b1, Ne.symm b1, b2, Ne.symm b2]
    · simp [a1, Ne.symm a1, a2, Ne.symm a2]
theorem cl_ne {K f t : Nat} (hne : f ≠ t) (hf : K.testBit f = true) : cl K f ≠ cl K t ∨ cl K f = 9 := by
  by_cases f0 : f = 0
  · rw [f0]; exact Or.inr rfl
  · obtain ⟨f', rfl⟩ : ∃ f', f = f' + 1 := ⟨f - 1, by omega⟩
    by_cases t0 : t = 0
    · by_cases e : cl K (f' + 1) = 9
      · exact Or.inr e
      · rw [t0]; exact Or.inl e
    · obtain ⟨t', rfl⟩ : ∃ t', t = t' + 1 := ⟨t - 1, by omega⟩
      by_cases e : cl K (f' + 1) = 9
      · exact Or.inr e
      · left
        intro q
        cases ht : K.testBit (t' + 1) with
        | true =>
          rw [cl_on (i := f') hf, cl_on (i := t') ht] at q
          exact hne (by rw [cnt_inj (P := onK K) hf ht q])
        | false =>
          apply e
          rw [q]
          unfold cl
          rw [if_neg (by omega), ht, if_neg (by decide)]
def mC (g : Nat → Nat → Nat) (n S K a b : Nat) : Int := sg (fun l => if uS g S K l = true then ec g K l a * ec g K l b else 0) n
def rC (g : Nat → Nat → Nat) (n S K : Nat) (v : Nat → Int) (a : Nat) : Int := sg (fun l => if uS g S K l = true then v l * ec g K l a else 0) n
def GI (g : Nat → Nat → Nat) (S K ax l : Nat) (G R : Nat → Int64) : Prop := (∀ a, a < 5 → ∀ b, b < 5 → G (5 * a + b) = iL (mC g l S K a b)) ∧ ∀ a, a < 5 → R a = iL (rC g l S K (vI g ax) a)
theorem gram_in {n F S K ax : Nat} {g : Nat → Nat → Nat} {page sines col : Nat → Int32} (wide : Int32) (hg : WG n g) (hp : PP n g page) (hsn : ∀ j, j < 12 → sines j = sinT j) (hax : ax < 3) (hK : K < 64) (hS : S < 2 ^ 31) (hcol : ∀ t, t < 6 → col t = nC (cl K t)) : ∀ (k l fuel : Nat) (G R : Nat → Int64), k + l = n → k < fuel → GI g S K ax l G R → ∃ G' R', f_X6_layGram_L55 F sines page fuel wide col G R (nI S) (nI K) (nI ax) (nI l) = some (wide, col, G', R') ∧ GI g S K ax n G' R' := by
  have hn := hg.1
  intro k
  induction k with
  | zero =>
    intro l fuel G R hk hf h
    have e : l = n := by omega
    subst e
    obtain ⟨f, rfl⟩ : ∃ f, fuel = f + 1 := ⟨fuel - 1, by omega⟩
    refine ⟨G, R, ?_, h⟩
    show f_X6_layGram_B55 F sines page _ _ _ _ _ _ _ _ _ = _
    unfold f_X6_layGram_B55
    rw [chk_0 (by omega) (by omega), show Int32.toNatClampNeg (0 : Int32) = 0 from rfl, hp.1, if_pos (nI_le (Nat.le_refl l) (by omega))]
  | succ k ih =>
    intro l fuel G R hk hf h
    obtain ⟨f, rfl⟩ : ∃ f, fuel = f + 1 := ⟨fuel - 1, by omega⟩
    have hl : l < n := by omega
    have h2 := hg.2 l hl
    have c : ¬ nI n ≤ nI l := nI_ge hl (by omega)
    have em : ∀ a b, mC g (l + 1) S K a b = mC g l S K a b + (if uS g S K l = true then ec g K l a * ec g K l b else 0) := fun _ _ => rfl
    have er : ∀ a, rC g (l + 1) S K (vI g ax) a = rC g l S K (vI g ax) a + (if uS g S K l = true then vI g ax l * ec g K l a else 0) := fun _ => rfl
    have e0 : f_X6_layGram_L55 F sines page (f + 1) wide col G R (nI S) (nI K) (nI ax) (nI l) = f_X6_layGram_B55 F sines page (f_X6_layGram_L55 F sines page f) wide col G R (nI S) (nI K) (nI ax) (nI l) := rfl
    rw [e0]
    unfold f_X6_layGram_B55
    rw [chk_0 (by omega) (by omega), show Int32.toNatClampNeg (0 : Int32) = 0 from rfl, hp.1, if_neg c, e_has6 hS (by omega), e_tiedLeg hg hp hK hl]
    simp only [bnd1_some', i01]
    cases hb : uS g S K l with
    | false =>
      obtain ⟨G', R', h3, h4⟩ := ih (l + 1) f G R (by omega) (by omega) ⟨fun a ha b hb2 => by rw [em, hb, if_neg (by decide), Int.add_zero]; exact h.1 a ha b hb2, fun a ha => by rw [er, hb, if_neg (by decide), Int.add_zero]; exact h.2 a ha⟩
      refine ⟨G', R', ?_, h4⟩
      have e : f_X6_layGram_J240 F sines page (f_X6_layGram_L55 F sines page f) wide col G R (nI S) (nI K) (nI ax) (nI l) = some (wide, col, G', R') := by
        unfold f_X6_layGram_J240
        simp only [nmd, nI_1]
        exact h3
      unfold uS at hb
      by_cases d : S.testBit l = false
      · rw [if_pos d]; exact e
      · rw [if_neg d]
        have d2 : K.testBit (g l 4) = false := by
          cases d3 : S.testBit l with
          | false => exact absurd d3 d
          | true => rw [d3] at hb; exact hb
        rw [if_pos d2]; exact e
    | true =>
      have hb2 : S.testBit l = true ∧ K.testBit (g l 4) = true := by
        unfold uS at hb
        exact (Bool.and_eq_true _ _).mp hb
      have o4 : f_X6_of (nI l) (4 : Int32) page = some (nI (g l 4)) := of_row (j := 4) hp hn hl (by omega)
      have o5 : f_X6_of (nI l) (5 : Int32) page = some (nI (g l 5)) := of_row (j := 5) hp hn hl (by omega)
      have os : f_X6_stepOf (nI l) (nI ax) sines page = some (vc g l ax) := e_stepOf hg hp hsn hl hax
      have hcf := cl_or K (s := g l 4) (by omega)
      have hct := cl_or K (s := g l 5) (by omega)
      have hne := cl_ne (K := K) (f := g l 4) (t := g l 5) (by omega) hb2.2
      rw [if_neg (by rw [hb2.1]; decide), if_neg (by rw [hb2.2]; decide), o4]
      simp only [bnd1_some']
      rw [chk_nI (by omega) (by omega), cl_nI (by omega), hcol _ (show g l 4 < 6 by omega), o5]
      simp only [bnd1_some', nmd]
      rw [chk_nI (by omega) (by omega), cl_nI (by omega), hcol _ (show g l 5 < 6 by omega), os]
      simp only [bnd1_some']
      have fin : ∀ (G1 R1 : Nat → Int64), (∀ a, a < 5 → ∀ b, b < 5 → G1 (5 * a + b) = G (5 * a + b) + iL (if a = cl K (g l 4) ∧ b = cl K (g l 4) then 1 else 0)) → (∀ a, a < 5 → R1 a = R a + iL (if a = cl K (g l 4) then - vI g ax l else 0)) → ∃ G' R', f_X6_layGram_J158 F sines page (f_X6_layGram_L55 F sines page f) wide col G1 R1 (nI S) (nI K) (nI ax) (nI l) (nC (cl K (g l 4))) (nC (cl K (g l 5))) (vc g l ax) = some (wide, col, G', R') ∧ GI g S K ax n G' R' := fun G1 R1 q1 q2 => by
        obtain ⟨G2, R2, s1, s2, s3⟩ := gr_158 (F := F) (sines := sines) (p1 := page) (kb := f_X6_layGram_L55 F sines page f) wide col G1 R1 (nI S) (nI K) (nI ax) (nI l) (vc g l ax) (vc_L g l ax) hcf hct
        obtain ⟨G', R', h3, h4⟩ := ih (l + 1) f G2 R2 (by omega) (by omega) ⟨fun a ha b hb2 => by
          rw [s2 a ha b hb2, q1 a ha b hb2, h.1 a ha b hb2, Int64.add_assoc, iL_add, iL_add, em, hb, if_pos rfl]
          congr 2
          exact eC_mul hne ha, fun a ha => by
          rw [s3 a ha, q2 a ha, h.2 a ha, Int64.add_assoc, iL_add, iL_add, er, hb, if_pos rfl]
          congr 2
          unfold ec eC
          by_cases a1 : a = cl K (g l 4) <;> by_cases a2 : a = cl K (g l 5)
          · omega
          · rw [if_pos a1, if_neg a2, if_neg (Ne.symm a2), if_pos a1.symm]; omega
          · rw [if_neg a1, if_pos a2, if_pos a2.symm, if_neg (Ne.symm a1)]; omega
          · rw [if_neg a1, if_neg a2, if_neg (Ne.symm a2), if_neg (Ne.symm a1)]; omega⟩
        refine ⟨G', R', ?_, h4⟩
        rw [s1, nI_1]
        exact h3
      rcases hcf with e9 | e5
      · rw [e9] at fin ⊢
        rw [nC_9, if_pos rfl]
        rw [nC_9] at fin
        exact fin G R (fun a ha b hb2 => by rw [if_neg (by omega)]; exact (Int64.add_zero _).symm) (fun a ha => by rw [if_neg (by omega)]; exact (Int64.add_zero _).symm)
      · rw [nC_n e5] at fin ⊢
        rw [if_neg (nI_n9 (by omega)), n5, vc_L]
        simp (disch := omega) only [nmd, chk_nI, cl_nI]
        exact fin _ _ (fun a ha b hb2 => by rw [upa, show (1 : Int64) = iL 1 from rfl, it_L]; simp only [ix5 hb2 e5]) (fun a ha => by rw [ups, iL_neg, it_L])
theorem z8_in {F : Nat} {sines page : Nat → Int32} (wide : Int32) (col : Nat → Int32) (R : Nat → Int64) (x2 x3 x4 : Int32) : ∀ (k i fuel : Nat) (G : Nat → Int64), k + i = 25 → k < fuel → (∀ j, j < i → G j = 0) → ∃ w, f_X6_layGram_L8 F sines page fuel wide col G R x2 x3 x4 (nI i) = f_X6_layGram_L32 F sines page F wide col w R x2 x3 x4 (0 : Int32) ∧ ∀ j, j < 25 → w j = 0 := by
  intro k
  induction k with
  | zero =>
    intro i fuel G hk hf h
    have e : i = 25 := by omega
    subst e
    obtain ⟨f, rfl⟩ : ∃ f, fuel = f + 1 := ⟨fuel - 1, by omega⟩
    refine ⟨G, ?_, h⟩
    show f_X6_layGram_B8 F sines page _ _ _ _ _ _ _ _ _ = _
    unfold f_X6_layGram_B8
    rw [if_pos (show (25 : Int32) ≤ nI 25 from nI_le (Nat.le_refl 25) (by omega))]
  | succ k ih =>
    intro i fuel G hk hf h
    obtain ⟨f, rfl⟩ : ∃ f, fuel = f + 1 := ⟨fuel - 1, by omega⟩
    obtain ⟨w, h1, h2⟩ := ih (i + 1) f (vp_updL G i 0) (by omega) (by omega) (fun j hj => by
      by_cases e : j = i
      · rw [e, pk_uLs]
      · rw [pk_uLn e]; exact h j (by omega))
    refine ⟨w, ?_, h2⟩
    show f_X6_layGram_B8 F sines page (f_X6_layGram_L8 F sines page f) _ _ _ _ _ _ _ _ = _
    unfold f_X6_layGram_B8
    have c : ¬ (25 : Int32) ≤ nI i := fun h => absurd ((nI_leI (a := 25) (by omega) (by omega)).mp h) (by omega)
    rw [if_neg c]
    simp (disch := omega) only [nmd, chk_nI, cl_nI, nI_1]
    exact h1
theorem z32_in {F : Nat} {sines page : Nat → Int32} (wide : Int32) (col : Nat → Int32) (G : Nat → Int64) (x2 x3 x4 : Int32) : ∀ (k i fuel : Nat) (R : Nat → Int64), k + i = 5 → k < fuel → (∀ j, j < i → R j = 0) → ∃ w, f_X6_layGram_L32 F sines page fuel wide col G R x2 x3 x4 (nI i) = f_X6_layGram_L55 F sines page F wide col G w x2 x3 x4 (0 : Int32) ∧ ∀ j, j < 5 → w j = 0 := by
  intro k
  induction k with
  | zero =>
    intro i fuel R hk hf h
    have e : i = 5 := by omega
    subst e
    obtain ⟨f, rfl⟩ : ∃ f, fuel = f + 1 := ⟨fuel - 1, by omega⟩
    refine ⟨R, ?_, h⟩
    show f_X6_layGram_B32 F sines page _ _ _ _ _ _ _ _ _ = _
    unfold f_X6_layGram_B32
    rw [if_pos (show (5 : Int32) ≤ nI 5 from nI_le (Nat.le_refl 5) (by omega))]
  | succ k ih =>
    intro i fuel R hk hf h
    obtain ⟨f, rfl⟩ : ∃ f, fuel = f + 1 := ⟨fuel - 1, by omega⟩
    obtain ⟨w, h1, h2⟩ := ih (i + 1) f (vp_updL R i 0) (by omega) (by omega) (fun j hj => by
      by_cases e : j = i
      · rw [e, pk_uLs]
      · rw [pk_uLn e]; exact h j (by omega))
    refine ⟨w, ?_, h2⟩
    show f_X6_layGram_B32 F sines page (f_X6_layGram_L32 F sines page f) _ _ _ _ _ _ _ _ = _
    unfold f_X6_layGram_B32
    have c : ¬ (5 : Int32) ≤ nI i := fun h => absurd ((nI_leI (a := 5) (by omega) (by omega)).mp h) (by omega)
    rw [if_neg c]
    simp (disch := omega) only [nmd, chk_nI, cl_nI, nI_1]
    exact h1
def wd (K : Nat) : Nat := cnt (onK K) 5
theorem wd_le (K : Nat) : wd K ≤ 5 := cnt_le _ 5
theorem e_layGram {n F S K ax : Nat} {g : Nat → Nat → Nat} {page sines : Nat → Int32} (hF : 25 < F) (hg : WG n g) (hp : PP n g page) (hsn : ∀ j, j < 12 → sines j = sinT j) (hax : ax < 3) (hK : K < 64) (hS : S < 2 ^ 31) (wide : Int32) (column : Nat → Int32) (gram right : Nat → Int64) : ∃ col G R, f_X6_layGram F (nI S) (nI K) (nI ax) wide sines column gram right page = some (nI (wd K), col, G, R) ∧ (∀ t, t < 6 → col t = nC (cl K t)) ∧ GI g S K ax n G R := by
  have hn := hg.1
  obtain ⟨col, a1, a2⟩ := cols_in (F := F) hK 6 0 F column (by omega) (by omega) (fun t ht => absurd ht (Nat.not_lt_zero t))
  obtain ⟨G0, b1, b2⟩ := z8_in (F := F) (sines := sines) (page := page) (nI (wd K)) col right (nI S) (nI K) (nI ax) 25 0 F gram (by omega) (by omega) (fun t ht => absurd ht (Nat.not_lt_zero t))
  obtain ⟨R0, c1, c2⟩ := z32_in (F := F) (sines := sines) (page := page) (nI (wd K)) col G0 (nI S) (nI K) (nI ax) 5 0 F right (by omega) (by omega) (fun t ht => absurd ht (Nat.not_lt_zero t))
  obtain ⟨G, R, d1, d2⟩ := gram_in (F := F) (S := S) (nI (wd K)) hg hp hsn hax hK hS a2 n 0 F G0 R0 (by omega) (by omega) ⟨fun a ha b hb => b2 _ (by omega), fun a ha => c2 a ha⟩
  refine ⟨col, G, R, ?_, a2, d2⟩
  unfold f_X6_layGram f_X6_layColumns
  have a1' : f_X6_layColumns_L7 F F (0 : Int32) column (nI K) (0 : Int32) = some (nI (wd K), col) := a1
  rw [a1']
  show f_X6_layGram_L8 F sines page F (nI (wd K)) col gram right (nI S) (nI K) (nI ax) (nI 0) = _
  rw [b1, show (0 : Int32) = nI 0 from rfl, c1]
  exact d1
