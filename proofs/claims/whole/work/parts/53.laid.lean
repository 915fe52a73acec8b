/-! ===== the reference's plotted coordinates; laid, miss, closes ===== -/
theorem lay6_in {n F : Nat} {g : Nat → Nat → Nat} {page sines P : Nat → Int32} {kb : (Nat → Int32) → Int32 → Int32 → Option (Nat → Int32)} (hg : WG n g) (hp : PP n g page) (hsn : ∀ j, j < 12 → sines j = sinT j) {l set : Nat} (hl : l < n) (hs : set < 64) : ∀ (k ax fuel : Nat), k + ax = 3 → k < fuel → f_X6_layOut_L80 F sines page kb fuel (lay (g l 4) (g l 5) (set.testBit (g l 4)) (vc g l) ax P) (nI set) (nI l) (nI (g l 4)) (nI (g l 5)) (if set.testBit (g l 4) = true then 1 else 0) (nI ax) = kb (lay (g l 4) (g l 5) (set.testBit (g l 4)) (vc g l) 3 P) (nI (set ||| pr g l)) 0 := by
  intro k
  have hn := hg.1
  have h4 := (hg.lw.2 l hl).1
  have h5 := (hg.lw.2 l hl).2
  induction k with
  | zero =>
    intro ax fuel hk hf
    have e : ax = 3 := by omega
    subst e
    obtain ⟨f, rfl⟩ : ∃ f, fuel = f + 1 := ⟨fuel - 1, by omega⟩
    show f_X6_layOut_B80 F sines page kb _ _ _ _ _ _ _ _ = _
    unfold f_X6_layOut_B80 f_X6_layOut_J178
    rw [if_pos (show (3 : Int32) ≤ nI 3 from nI_le (Nat.le_refl 3) (by omega)), shl_nI (by omega), shl_nI (by omega), fa_or, fa_or]
    rfl
  | succ k ih =>
    intro ax fuel hk hf
    have hx : ax < 3 := by omega
    obtain ⟨f, rfl⟩ : ∃ f, fuel = f + 1 := ⟨fuel - 1, by omega⟩
    have ih := ih (ax + 1) f (by omega) (by omega)
    show f_X6_layOut_B80 F sines page kb (f_X6_layOut_L80 F sines page kb f) _ _ _ _ _ _ _ = _
    unfold f_X6_layOut_B80 f_X6_layOut_J158
    have i4 : (3 : Int32) * nI (g l 4) + nI ax = nI (3 * g l 4 + ax) := by rw [fa_lit 3, pk_mul, nI_add]
    have i5 : (3 : Int32) * nI (g l 5) + nI ax = nI (3 * g l 5 + ax) := by rw [fa_lit 3, pk_mul, nI_add]
    rw [if_neg (show ¬ (3 : Int32) ≤ nI ax from fun h => absurd ((nI_leI (a := 3) (by omega) (by omega)).mp h) (by omega)), e_stepOf hg hp hsn hl hx, i4, i5]
    simp (disch := omega) only [bnd1_some', nmd, chk_nI, cl_nI, nI_1, i01]
    rw [← ih]
    show _ = f_X6_layOut_L80 F sines page kb f (if set.testBit (g l 4) = true then upd _ _ _ else upd _ _ _) _ _ _ _ _ _
    cases hb : set.testBit (g l 4) with
    | true => simp; rfl
    | false => simp; rfl
theorem lvs_up {g : Nat → Nat → Nat} {set l : Nat} (hs : set < 64) (hp : pr g l < 64) (h : lvs g set l = true) : popc set < popc (set ||| pr g l) := by
  refine popc_up set hs _ (or_lt hs hp) (by rw [← Nat.or_assoc, Nat.or_self]) (fun e => ?_)
  have b4 : (set ||| pr g l).testBit (g l 4) = true := by unfold pr; rw [Nat.testBit_or, Nat.testBit_or, Nat.testBit_two_pow_self]; simp
  have b5 : (set ||| pr g l).testBit (g l 5) = true := by unfold pr; rw [Nat.testBit_or, Nat.testBit_or, Nat.testBit_two_pow_self]; simp
  rw [← e] at b4 b5
  unfold lvs at h
  rw [b4, b5] at h
  cases h
theorem lay6_out {n F : Nat} {g : Nat → Nat → Nat} {page sines : Nat → Int32} (hF : 8 < F) (hg : WG n g) (hp : PP n g page) (hsn : ∀ j, j < 12 → sines j = sinT j) : ∀ (k m l fuel set : Nat) (P : Nat → Int32), m + l = n → 10 * k + m < fuel → set < 64 → 7 ≤ popc set + k → lv1 g set n 0 = lv1 g set m l → f_X6_layOut_L25 F sines page fuel P (nI set) (nI l) = some (plotN g n k set P) := by
  intro k
  have hn := hg.1
  induction k with
  | zero =>
    intro m l fuel set P hk hf hs hc
    have := popc_6 hs
    omega
  | succ k ihk =>
    intro m
    induction m with
    | zero =>
      intro l fuel set P hk hf hs hc he
      have e : l = n := by omega
      subst e
      obtain ⟨f, rfl⟩ : ∃ f, fuel = f + 1 := ⟨fuel - 1, by omega⟩
      show f_X6_layOut_B25 F sines page _ _ _ _ = _
      unfold f_X6_layOut_B25
      rw [chk_0 (by omega) (by omega), show Int32.toNatClampNeg (0 : Int32) = 0 from rfl, hp.1, if_pos (nI_le (Nat.le_refl _) (by omega))]
      unfold plotN
      rw [he]
      rfl
    | succ m ih =>
      intro l fuel set P hk hf hs hc he
      have hl : l < n := by omega
      have h4 := (hg.lw.2 l hl).1
      have h5 := (hg.lw.2 l hl).2
      obtain ⟨f, rfl⟩ : ∃ f, fuel = f + 1 := ⟨fuel - 1, by omega⟩
      show f_X6_layOut_B25 F sines page (f_X6_layOut_L25 F sines page f) _ _ _ = _
      unfold f_X6_layOut_B25 f_X6_layOut_J178
      have o4 : f_X6_of (nI l) (4 : Int32) page = some (nI (g l 4)) := by rw [← hp.2.2 l hl 4 (by omega)]; exact e_of (j := 4) page (by omega) (by omega)
      have o5 : f_X6_of (nI l) (5 : Int32) page = some (nI (g l 5)) := by rw [← hp.2.2 l hl 5 (by omega)]; exact e_of (j := 5) page (by omega) (by omega)
      rw [chk_0 (by omega) (by omega), show Int32.toNatClampNeg (0 : Int32) = 0 from rfl, hp.1, if_neg (nI_ge hl (by omega)), o4, o5]
      simp only [bnd1_some']
      rw [e_has6 (by omega) (by omega), e_has6 (by omega) (by omega)]
      simp only [bnd1_some', nmd, nI_1]
      by_cases c : lvs g set l = true
      · have e1 : lv1 g set (m + 1) l = some l := if_pos c
        have hne : ¬ ((if set.testBit (g l 4) = true then (1 : Int32) else 0) = (if set.testBit (g l 5) = true then 1 else 0)) := by
          unfold lvs at c
          cases b4 : set.testBit (g l 4) <;> cases b5 : set.testBit (g l 5) <;> rw [b4, b5] at c <;> first | (cases c; done) | decide
        rw [if_neg hne]
        have h0 := lay6_in (F := F) (kb := f_X6_layOut_L25 F sines page f) (P := P) hg hp hsn hl hs 3 0 F (by omega) (by omega)
        have h1 : f_X6_layOut_L80 F sines page (f_X6_layOut_L25 F sines page f) F P (nI set) (nI l) (nI (g l 4)) (nI (g l 5)) (if set.testBit (g l 4) = true then 1 else 0) (0 : Int32) = _ := h0
        have hu := lvs_up hs (pr_lt hg.lw hl) c
        rw [h1]
        unfold plotN
        rw [he, e1]
        exact ihk n 0 f (set ||| pr g l) _ (by omega) (by omega) (or_lt hs (pr_lt hg.lw hl)) (by omega) rfl
      · have e1 : lv1 g set (m + 1) l = lv1 g set m (l + 1) := if_neg c
        have heq : ((if set.testBit (g l 4) = true then (1 : Int32) else 0) = (if set.testBit (g l 5) = true then 1 else 0)) := by
          unfold lvs at c
          cases b4 : set.testBit (g l 4) <;> cases b5 : set.testBit (g l 5) <;> rw [b4, b5] at c <;> first | rfl | exact absurd rfl c
        rw [if_pos heq]
        exact ih (l + 1) f set P (by omega) (by omega) hs hc (by rw [he, e1])
theorem fill6_in {n F : Nat} {g : Nat → Nat → Nat} {page sines : Nat → Int32} (hF : 100 < F) (hg : WG n g) (hp : PP n g page) (hsn : ∀ j, j < 12 → sines j = sinT j) : ∀ (k i fuel : Nat) (P : Nat → Int32), k + i = 18 → k < fuel → (∀ j, j < i → P j = 0) → ∃ w, f_X6_layOut_L4 F sines page fuel P (1 : Int32) (nI i) = some w ∧ E18 w (PL g n) := by
  intro k
  induction k with
  | zero =>
    intro i fuel P hk hf hP
    have e : i = 18 := by omega
    subst e
    obtain ⟨f, rfl⟩ : ∃ f, fuel = f + 1 := ⟨fuel - 1, by omega⟩
    refine ⟨plotN g n 6 1 P, ?_, plot_cong hg.lw 6 1 _ _ hP⟩
    show f_X6_layOut_B4 F sines page _ _ _ _ = _
    unfold f_X6_layOut_B4
    rw [if_pos (show (18 : Int32) ≤ nI 18 from nI_le (Nat.le_refl 18) (by omega))]
    exact lay6_out (by omega) hg hp hsn 6 n 0 F 1 P (by omega) (by have := hg.1; omega) (by omega) (by decide) rfl
  | succ k ih =>
    intro i fuel P hk hf hP
    obtain ⟨f, rfl⟩ : ∃ f, fuel = f + 1 := ⟨fuel - 1, by omega⟩
    have ih := ih (i + 1) f (upd P i 0) (by omega) (by omega) (fun j hj => by
      by_cases e : j = i
      · subst e; exact pk_us
      · rw [pk_un e]; exact hP j (by omega))
    obtain ⟨w, h1, h2⟩ := ih
    refine ⟨w, ?_, h2⟩
    show f_X6_layOut_B4 F sines page (f_X6_layOut_L4 F sines page f) _ _ _ = _
    unfold f_X6_layOut_B4
    rw [if_neg (show ¬ (18 : Int32) ≤ nI i from fun h => absurd ((nI_leI (a := 18) (by omega) (by omega)).mp h) (by omega)), chk_nI (by omega) (by omega), cl_nI (by omega), nI_1]
    exact h1
theorem e_layOut {n F : Nat} {g : Nat → Nat → Nat} {page sines P : Nat → Int32} (hF : 100 < F) (hg : WG n g) (hp : PP n g page) (hsn : ∀ j, j < 12 → sines j = sinT j) : ∃ w, f_X6_layOut F sines P page = some w ∧ E18 w (PL g n) := fill6_in hF hg hp hsn 18 0 F P (by omega) (by omega) (fun j hj => absurd hj (Nat.not_lt_zero j))
/-- the misclosure of a leg -/
def mis (g : Nat → Nat → Nat) (n l ax : Nat) : Int32 := vc g l ax - (PL g n (3 * g l 5 + ax) - PL g n (3 * g l 4 + ax))
theorem e_misc {n : Nat} {g : Nat → Nat → Nat} {rows w : Nat → Int32} (hg : WG n g) (hr : RR n g rows) (hw : E18 w (PL g n)) {l ax : Nat} (hl : l < n) (hx : ax < 3) : f_X3_misclosure (nI l) (nI ax) w rows = some (mis g n l ax) := by
  have hn := hg.1
  have h4 := (hg.lw.2 l hl).1
  have h5 := (hg.lw.2 l hl).2
  unfold f_X3_misclosure
  rw [show (4 : Int32) = nI 4 from rfl, show (5 : Int32) = nI 5 from rfl, g_row hr hn hl (by omega), g_row hr hn hl (by omega), e_vector hg hr hl hx]
  simp only [bnd1_some']
  rw [e_place _ h4 hx, e_place _ h5 hx]
  simp only [bnd1_some']
  rw [hw _ (by omega), hw _ (by omega)]
  rfl
theorem e_missOf {n : Nat} {g : Nat → Nat → Nat} {page sines w : Nat → Int32} (hg : WG n g) (hp : PP n g page) (hsn : ∀ j, j < 12 → sines j = sinT j) (hw : E18 w (PL g n)) {l ax : Nat} (hl : l < n) (hx : ax < 3) : f_X6_missOf (nI l) (nI ax) sines w page = some (mis g n l ax) := by
  have hn := hg.1
  have h4 := (hg.lw.2 l hl).1
  have h5 := (hg.lw.2 l hl).2
  have o4 : f_X6_of (nI l) (4 : Int32) page = some (nI (g l 4)) := by rw [← hp.2.2 l hl 4 (by omega)]; exact e_of (j := 4) page (by omega) (by omega)
  have o5 : f_X6_of (nI l) (5 : Int32) page = some (nI (g l 5)) := by rw [← hp.2.2 l hl 5 (by omega)]; exact e_of (j := 5) page (by omega) (by omega)
  have i4 : (3 : Int32) * nI (g l 4) + nI ax = nI (3 * g l 4 + ax) := by rw [fa_lit 3, pk_mul, nI_add]
  have i5 : (3 : Int32) * nI (g l 5) + nI ax = nI (3 * g l 5 + ax) := by rw [fa_lit 3, pk_mul, nI_add]
  unfold f_X6_missOf
  rw [e_stepOf hg hp hsn hl hx, o4, o5]
  simp only [bnd1_some', i4, i5]
  rw [chk_nI (by omega) (by omega), chk_nI (by omega) (by omega), cl_nI (by omega), cl_nI (by omega), hw _ (by omega), hw _ (by omega)]
  unfold mis vc
  congr 1
  grind
/-- errors of a question about a connected station's component -/
theorem ax_cases (y : Int32) : (y.toInt < 0 ∨ 2 < y.toInt) ∨ ∃ ax : Nat, ax < 3 ∧ y = nI ax := by
  rcases tri y (M := 2) (by decide) with h | h | ⟨c, hc, e⟩
  · exact Or.inl (Or.inl h)
  · exact Or.inl (Or.inr h)
  · exact Or.inr ⟨c, by omega, e⟩
/-- the error of a question about a leg or station and a component; -9: none -/
def seErr (g : Nat → Nat → Nat) (n N : Nat) (y1 y2 : Int32) : Int32 := if ¬ (0 ≤ y1.toInt ∧ y1.toInt < N) then -1 else if ¬ (0 ≤ y2.toInt ∧ y2.toInt ≤ 2) then -2 else if (con g n (2 ^ n - 1)).testBit y1.toInt.toNat = true then -9 else -3
def leErr (g : Nat → Nat → Nat) (n : Nat) (y1 y2 : Int32) : Int32 := if ¬ (0 ≤ y1.toInt ∧ y1.toInt < n) then -1 else if ¬ (0 ≤ y2.toInt ∧ y2.toInt ≤ 2) then -2 else if (con g n (2 ^ n - 1)).testBit (g y1.toInt.toNat 4) = true then -9 else -3
theorem e_seErr {N n F : Nat} {g : Nat → Nat → Nat} {rows : Nat → Int32} (hF : 9 < F) (hg : WG n g) (hN : N ≤ 6) (hr : RR n g rows) (y1 y2 : Int32) : f_X5_stationError F y1 y2 (nI n) (nI N) rows = some (seErr g n N y1 y2) := by
  have hp2 : 2 ^ n ≤ 256 := p2_256 hg.1
  have h2 := Nat.one_le_two_pow (n := n)
  have hK := con_lt hg.lw (show 2 ^ n - 1 < 2 ^ n by omega)
  unfold f_X5_stationError seErr
  rw [e_hasSt y1 (by omega), e_connected (by omega) hg hr]
  simp only [bnd1_some']
  have k3 : (3 : Int32).toInt = 3 := by decide
  simp only [fa_lt, lit_0, k3]
  rcases st_cases y1 (N := N) (by omega) with h1 | ⟨a, ha, rfl⟩
  · rw [if_neg h1, if_pos rfl, if_pos h1]
  have hin := in_a ha (show N ≤ 8 by omega)
  rw [if_pos hin, if_neg (by decide), if_neg (show ¬ ¬ (0 ≤ (nI a).toInt ∧ (nI a).toInt < N) from fun q => q hin), e_holds (by omega) (by omega)]
  simp only [bnd1_some', i01, nI_toInt (show a < 2 ^ 31 by omega), Int.toNat_natCast]
  by_cases c1 : y2.toInt < 0
  · rw [if_pos c1, if_pos (by omega)]
  · rw [if_neg c1]
    by_cases c2 : y2.toInt < 3
    · rw [if_pos c2, if_neg (show ¬ ¬ (0 ≤ y2.toInt ∧ y2.toInt ≤ 2) by omega)]
      cases (con g n (2 ^ n - 1)).testBit a <;> rfl
    · rw [if_neg c2, if_pos (by omega)]
theorem e_leErr {n F : Nat} {g : Nat → Nat → Nat} {rows : Nat → Int32} (hF : 9 < F) (hg : WG n g) (hr : RR n g rows) (y1 y2 : Int32) : f_X5_legError F y1 y2 (nI n) rows = some (leErr g n y1 y2) := by
  have hp2 : 2 ^ n ≤ 256 := p2_256 hg.1
  have h2 := Nat.one_le_two_pow (n := n)
  have hn := hg.1
  have hK := con_lt hg.lw (show 2 ^ n - 1 < 2 ^ n by omega)
  have hm := msk_lt (tch g (con g n (2 ^ n - 1))) n
  unfold f_X5_legError leErr
  rw [e_has y1 hn, e_connected (by omega) hg hr]
  simp only [bnd1_some']
  have k3 : (3 : Int32).toInt = 3 := by decide
  simp only [fa_lt, lit_0, k3]
  rw [e_touching (by omega) hg hr hK]
  simp only [bnd1_some']
  rcases st_cases y1 hn with h1 | ⟨l, hl, rfl⟩
  · rw [if_neg h1, if_pos rfl, if_pos h1]
  have hin := in_a hl hn
  rw [if_pos hin, if_neg (by decide), if_neg (show ¬ ¬ (0 ≤ (nI l).toInt ∧ (nI l).toInt < n) from fun q => q hin), e_holds (by omega) (by omega)]
  simp only [bnd1_some', i01, nI_toInt (show l < 2 ^ 31 by omega), Int.toNat_natCast]
  rw [msk_bit, con_tch hg.lw (show 2 ^ n - 1 < 2 ^ n by omega) hl (all_in hl)]
  by_cases c1 : y2.toInt < 0
  · rw [if_pos c1, if_pos (by omega)]
  · rw [if_neg c1]
    by_cases c2 : y2.toInt < 3
    · rw [if_pos c2, if_neg (show ¬ ¬ (0 ≤ y2.toInt ∧ y2.toInt ≤ 2) by omega)]
      simp only [hl, decide_true, Bool.true_and]
      cases (con g n (2 ^ n - 1)).testBit (g l 4) <;> rfl
    · rw [if_neg c2, if_pos (by omega)]
theorem core_laid {N n F : Nat} {g : Nat → Nat → Nat} {size st stations : Int32} {rows page sines : Nat → Int32} (hF : 100 < F) (h : CV N n g size st rows stations page) (hsn : ∀ j, j < 12 → sines j = sinT j) (y1 y2 th : Int32) (pl rat : Nat → Int32) : ∃ r w w', f_X5_laid F y1 y2 size st rows pl = some (r, w) ∧ f_X6_laid F y1 y2 th stations page sines rat = some (r, 0, w') := by
  obtain ⟨hw, ⟨rfl, rfl, hr⟩, hp, rfl⟩ := h
  have hN : N ≤ 6 := hw.2.2.1
  have hg := hw.wg
  have hn := hw.1
  have hp2 : 2 ^ n ≤ 256 := p2_256 hg.1
  have h2 := Nat.one_le_two_pow (n := n)
  have hK := con_lt hg.lw (show 2 ^ n - 1 < 2 ^ n by omega)
  obtain ⟨p1, e1, d1⟩ := e_plot (F := F) (P := pl) (by omega) hg hr
  obtain ⟨p2, e2, d2⟩ := e_layOut (F := F) (P := rat) (by omega) hg hp hsn
  have e9 := v_in y2 2 (by omega)
  rw [show Int64.ofNat 2 = (2 : Int64) from rfl] at e9
  unfold f_X5_laid f_X6_laid
  rw [e_seErr (by omega) hg hN hr, e_noSt y1 (by omega), e_in, e_all6 hn hp.1, e1, e2]
  simp only [bnd1_some', e9]
  rw [e_tied (by omega) hg (by omega) hp, show rch g (2 ^ n - 1) n 6 1 = con g n (2 ^ n - 1) from rfl]
  simp only [bnd1_some']
  unfold seErr
  rcases st_cases y1 (N := N) (by omega) with h1 | ⟨a, ha, rfl⟩
  · exact ⟨-1, pl, rat, by rw [if_pos h1]; rfl, by rw [if_neg h1]; rfl⟩
  have hin := in_a ha (show N ≤ 8 by omega)
  rw [if_neg (show ¬ ¬ (0 ≤ (nI a).toInt ∧ (nI a).toInt < N) from fun q => q hin), if_pos hin, if_pos rfl, e_has6 (by omega) (by omega)]
  simp only [bnd1_some', i01, nI_toInt (show a < 2 ^ 31 by omega), Int.toNat_natCast]
  rcases ax_cases y2 with h3 | ⟨ax, hax, rfl⟩
  · exact ⟨-2, pl, rat, by rw [if_pos (show ¬ (0 ≤ y2.toInt ∧ y2.toInt ≤ 2) by omega)]; rfl, by rw [if_neg (show ¬ (0 ≤ y2.toInt ∧ y2.toInt ≤ (2 : Nat)) by omega)]; rfl⟩
  rw [nI_toInt (show ax < 2 ^ 31 by omega), if_neg (show ¬ ¬ (0 ≤ (ax : Int) ∧ (ax : Int) ≤ 2) by omega), if_pos (show (0 ≤ (ax : Int) ∧ (ax : Int) ≤ (2 : Nat)) by omega), if_neg (show ¬ (1 : Int32) = 0 by decide)]
  cases hb : (con g n (2 ^ n - 1)).testBit a with
  | false => exact ⟨-3, pl, rat, by simp, by simp⟩
  | true =>
    have ia : (3 : Int32) * nI a + nI ax = nI (3 * a + ax) := by rw [fa_lit 3, pk_mul, nI_add]
    rw [if_pos rfl, if_pos rfl, if_neg (show ¬ (true = false) by decide), e_place _ (by omega) hax, ia, chk_nI (by omega) (by omega), cl_nI (by omega), d1 _ (by omega), d2 _ (by omega)]
    exact ⟨_, p1, p2, rfl, rfl⟩
theorem core_miss {N n F : Nat} {g : Nat → Nat → Nat} {size st stations : Int32} {rows page sines : Nat → Int32} (hF : 100 < F) (h : CV N n g size st rows stations page) (hsn : ∀ j, j < 12 → sines j = sinT j) (y1 y2 th : Int32) (pl rat : Nat → Int32) : ∃ r w w', f_X5_miss F y1 y2 size rows pl = some (r, w) ∧ f_X6_miss F y1 y2 th page sines rat = some (r, 0, w') := by
  obtain ⟨hw, ⟨rfl, rfl, hr⟩, hp, rfl⟩ := h
  have hg := hw.wg
  have hn := hw.1
  have hp2 : 2 ^ n ≤ 256 := p2_256 hg.1
  have h2 := Nat.one_le_two_pow (n := n)
  have hK := con_lt hg.lw (show 2 ^ n - 1 < 2 ^ n by omega)
  obtain ⟨p1, e1, d1⟩ := e_plot (F := F) (P := pl) (by omega) hg hr
  obtain ⟨p2, e2, d2⟩ := e_layOut (F := F) (P := rat) (by omega) hg hp hsn
  have e9 := v_in y2 2 (by omega)
  rw [show Int64.ofNat 2 = (2 : Int64) from rfl] at e9
  unfold f_X5_miss f_X6_miss
  rw [e_leErr (by omega) hg hr, e_noLeg y1 hn hp.1, e_in, e_all6 hn hp.1, e1, e2]
  simp only [bnd1_some', e9]
  rw [e_tied (by omega) hg (by omega) hp, show rch g (2 ^ n - 1) n 6 1 = con g n (2 ^ n - 1) from rfl]
  simp only [bnd1_some']
  unfold leErr
  rcases st_cases y1 hn with h1 | ⟨l, hl, rfl⟩
  · exact ⟨-1, pl, rat, by rw [if_pos h1]; rfl, by rw [if_neg h1]; rfl⟩
  have hin := in_a hl hn
  rw [if_neg (show ¬ ¬ (0 ≤ (nI l).toInt ∧ (nI l).toInt < n) from fun q => q hin), if_pos hin, if_pos rfl, e_tiedLeg hg hp hK hl]
  simp only [bnd1_some', i01, nI_toInt (show l < 2 ^ 31 by omega), Int.toNat_natCast]
  rcases ax_cases y2 with h3 | ⟨ax, hax, rfl⟩
  · exact ⟨-2, pl, rat, by rw [if_pos (show ¬ (0 ≤ y2.toInt ∧ y2.toInt ≤ 2) by omega)]; rfl, by rw [if_neg (show ¬ (0 ≤ y2.toInt ∧ y2.toInt ≤ (2 : Nat)) by omega)]; rfl⟩
  rw [nI_toInt (show ax < 2 ^ 31 by omega), if_neg (show ¬ ¬ (0 ≤ (ax : Int) ∧ (ax : Int) ≤ 2) by omega), if_pos (show (0 ≤ (ax : Int) ∧ (ax : Int) ≤ (2 : Nat)) by omega), if_neg (show ¬ (1 : Int32) = 0 by decide)]
  cases hb : (con g n (2 ^ n - 1)).testBit (g l 4) with
  | false => exact ⟨-3, pl, rat, by simp, by simp⟩
  | true =>
    rw [if_pos rfl, if_pos rfl, if_neg (show ¬ (true = false) by decide), e_misc hg hr d1 hl hax, e_missOf hg hp hsn d2 hl hax]
    exact ⟨_, p1, p2, rfl, rfl⟩
