/-! ===== judge ===== -/
def TR (N n : Nat) (g : Nat → Nat → Nat) (ts : Int32) (trows trial : Nat → Int32) : Prop := WF n N g ∧ ts = nI n ∧ RR n g trows ∧ PP n g trial
theorem WF_set {n N : Nat} {g : Nat → Nat → Nat} (hw : WF n N g) {a b v : Nat} (h : (b = 0 ∧ 1 ≤ v ∧ v ≤ 99) ∨ (b = 1 ∧ v ≤ 11) ∨ (b = 2 ∧ v ≤ 4) ∨ (b = 3 ∧ 1 ≤ v ∧ v ≤ 9) ∨ (b = 6 ∧ v ≤ 1)) : WF n N (gset g a b v) := by
  refine ⟨hw.1, hw.2.1, hw.2.2.1, fun l hl => ?_⟩
  have := hw.2.2.2 l hl
  unfold gset
  refine ⟨?_, ?_, ?_, ?_, ?_, ?_, ?_, ?_, ?_, ?_⟩
  · split <;> omega
  · split <;> omega
  · split <;> omega
  · split <;> omega
  · split <;> omega
  · split <;> omega
  · rw [if_neg (by omega)]; omega
  · rw [if_neg (by omega)]; omega
  · rw [if_neg (by omega), if_neg (by omega)]; omega
  · split <;> omega
theorem WF_rem {n N : Nat} {g : Nat → Nat → Nat} (hw : WF n N g) {a : Nat} (ha : a < n) : WF (n - 1) N (grem g a) := by
  refine ⟨by have := hw.1; omega, hw.2.1, hw.2.2.1, fun l hl => ?_⟩
  unfold grem
  exact hw.2.2.2 _ (by split <;> omega)
theorem xor_lit {M a : Nat} (ha : a < 8) : nI M ^^^ shlI (1 : Int32) (nI a) = nI (M ^^^ 2 ^ a) := by rw [shl_nI (by omega), xor_nI]
theorem item_act {n N F : Nat} {g : Nat → Nat → Nat} {ts : Int32} {trows trial sines ra : Nat → Int32} (hF : F = 1000) (hT : TR N n g ts trows trial) {h a b c : Nat} (h3 : h ≤ 3) (ha : a < 10) (hb : b < 10) (hc : c < 10) : ∃ (r : Bool) (ts' : Int32) (tr' t' : Nat → Int32) (n' : Nat) (g' : Nat → Nat → Nat), f_X5_carriesOut F (nI h) (nI a) (nI b) (nI c) ts trows = some (if r = true then 1 else 0, ts', tr') ∧ f_X6_does F (nI h) (nI a) (nI b) (nI c) (nI N) trial sines ra = some (if r = true then 1 else 0, t', ra) ∧ TR N n' g' ts' tr' t' := by
  have hT' := hT
  obtain ⟨hw, rfl, hr, hp⟩ := hT
  have hn := hw.1
  have q1 : (nI h = (1 : Int32)) ↔ h = 1 := nI_eq (b := 1) (by omega) (by omega)
  have q2 : (nI h = (2 : Int32)) ↔ h = 2 := nI_eq (b := 2) (by omega) (by omega)
  have q3 : (nI h = (3 : Int32)) ↔ h = 3 := nI_eq (b := 3) (by omega) (by omega)
  have q4 : ¬ (nI h = (4 : Int32)) := fun e => absurd ((nI_eq (b := 4) (by omega) (by omega)).mp e) (by omega)
  have q5 : ¬ (nI h = (5 : Int32)) := fun e => absurd ((nI_eq (b := 5) (by omega) (by omega)).mp e) (by omega)
  have q6 : ¬ (nI h = (6 : Int32)) := fun e => absurd ((nI_eq (b := 6) (by omega) (by omega)).mp e) (by omega)
  have q7 : ¬ (nI h = (7 : Int32)) := fun e => absurd ((nI_eq (b := 7) (by omega) (by omega)).mp e) (by omega)
  have z0 : (nI (10 * b + c) = (0 : Int32)) ↔ 10 * b + c = 0 := nI_eq (b := 0) (by omega) (by omega)
  have z1 : (nI (10 * b + c) ≤ (0 : Int32)) ↔ 10 * b + c = 0 := by
    rw [show (nI (10 * b + c) ≤ (0 : Int32)) ↔ 10 * b + c ≤ 0 from nI_leI (b := 0) (by omega) (by omega)]; omega
  have no : ∀ A B, A = some ((0 : Int32), nI n, trows) → B = some ((0 : Int32), trial, ra) → ∃ (r : Bool) (ts' : Int32) (tr' t' : Nat → Int32) (n' : Nat) (g' : Nat → Nat → Nat), A = some (if r = true then 1 else 0, ts', tr') ∧ B = some (if r = true then 1 else 0, t', ra) ∧ TR N n' g' ts' tr' t' := fun A B e1 e2 => ⟨false, nI n, trows, trial, n, g, e1, e2, hT'⟩
  rw [does_pre hp.1 hn _ _ ha]
  unfold f_X5_carriesOut f_X5_carriesOut_J30 f_X5_carriesOut_J40 f_X6_does_J24
  rw [hl_nI hn ha, ten_nI, if_neg q4, if_neg q5, if_neg q6, if_neg q7]
  simp only [bnd1_some', nmd, q1, q2, q3, z0, z1]
  have hz99 : 10 * b + c ≤ 99 := by omega
  generalize 10 * b + c = z at hz99
  by_cases ca : a < n
  · simp only [if_pos ca]
    by_cases d1 : h = 1
    · by_cases cz : z = 0
      · refine ⟨true, nI n, upd trows (8 * a + 6) (nI (1 - g a 6)), upd trial 1 (nI (fm g n ^^^ 2 ^ a)), n, gset g a 6 (1 - g a 6), ?_, ?_, WF_set hw (by omega), rfl, RR_put hr (by omega) (by omega) (by omega), PP_turn hp hw.h6 ca⟩
        · rw [e_turn hr hn hw.h6 ca]
          simp [d1, cz, bnd1]
        · have c1 : ∀ {α : Type} (x : Option α), chk (1 : Int32) 50 x = x := fun x => chk_nI (i := 1) (by omega) (by omega)
          simp only [c1, show Int32.toNatClampNeg (1 : Int32) = 1 from rfl, hp.2.1, xor_lit (show a < 8 by omega)]
          simp [d1, cz]
      · exact no _ _ (by simp [d1, cz]) (by simp [d1, cz])
    by_cases d2 : h = 2
    · by_cases cz : z = 0
      · obtain ⟨R', e1, e2⟩ := e_remove (F := F) (by omega) hr hn ca
        obtain ⟨P', e3, e4⟩ := e_takeOn (F := F) (by omega) hp hn hw.h6 ca
        refine ⟨true, nI (n - 1), R', P', n - 1, grem g a, ?_, ?_, WF_rem hw ca, rfl, e2, e4⟩
        · rw [e1]
          simp [d2, cz, bnd2]
        · rw [e3]
          simp [d2, cz, bnd1]
      · exact no _ _ (by simp [d2, cz]) (by simp [d2, cz])
    by_cases d3 : h = 3
    · by_cases cz : z = 0
      · exact no _ _ (by simp [d3, cz]) (by simp [d3, cz])
      · have i0 : (2 : Int32) + (6 : Int32) * nI a + (0 : Int32) = nI (2 + 6 * a + 0) := by rw [fa_lit 2, fa_lit 6, fa_lit 0, pk_mul, nI_add, nI_add]
        refine ⟨true, nI n, upd trows (8 * a + 0) (nI (z)), upd trial (2 + 6 * a + 0) (nI (z)), n, gset g a 0 (z), ?_, ?_, WF_set hw (by omega), rfl, RR_put hr (by omega) (by omega) (by omega), PP_put hp (by omega)⟩
        · have ep : f_X0_put (nI a) (0 : Int32) (nI z) trows = some (upd trows (8 * a + 0) (nI z)) := e_put (j := 0) _ _ (by omega) (by omega)
          rw [ep]
          simp [d3, cz, bnd1]
        · rw [i0, chk_nI (by omega) (by omega), cl_nI (by omega)]
          simp [d3, cz]
    · exact no _ _ (by simp [d1, d2, d3]) (by simp [d1, d2, d3])
  · exact no _ _ (by simp [ca]) (by simp [ca])
theorem item {n N F : Nat} {g : Nat → Nat → Nat} {ts : Int32} {trows trial sines ra pl : Nat → Int32} (hF : F = 1000) (hsn : ∀ j, j < 12 → sines j = sinT j) (hT : TR N n g ts trows trial) {v : Nat} (hv : v < 10000) : ∃ (r : Bool) (pl' : Nat → Int32) (ts' : Int32) (tr' t' a' : Nat → Int32) (n' : Nat) (g' : Nat → Nat → Nat), f_X5_passes F (nI v) pl ts (nI N) trows = some (if r = true then 1 else 0, pl', ts', tr') ∧ f_X6_does F (nI v / (1000 : Int32)) (remI (nI v / (100 : Int32)) (10 : Int32)) (remI (nI v / (10 : Int32)) (10 : Int32)) (remI (nI v) (10 : Int32)) (nI N) trial sines ra = some (if r = true then 1 else 0, t', a') ∧ TR N n' g' ts' tr' t' := by
  have e1 : nI v / (1000 : Int32) = nI (v / 1000) := pk_div (d := 1000) (by omega) (by omega) (by omega)
  have e2 : nI v / (100 : Int32) = nI (v / 100) := pk_div (d := 100) (by omega) (by omega) (by omega)
  have e3 : nI v / (10 : Int32) = nI (v / 10) := pk_div (d := 10) (by omega) (by omega) (by omega)
  have e4 : remI (nI (v / 100)) (10 : Int32) = nI (v / 100 % 10) := pk_rem (d := 10) (by omega) (by omega) (by omega)
  have e5 : remI (nI (v / 10)) (10 : Int32) = nI (v / 10 % 10) := pk_rem (d := 10) (by omega) (by omega) (by omega)
  have e6 : remI (nI v) (10 : Int32) = nI (v % 10) := pk_rem (d := 10) (by omega) (by omega) (by omega)
  unfold f_X5_passes
  rw [e1, e2, e3, e4, e5, e6]
  simp only [nmd]
  have z01 : ∀ (r : Bool) {α : Type} (x : Option α), chkZ (if r = true then 1 else 0) x = x := fun r => by cases r <;> intro α x <;> rfl
  have q : ((3 : Int32) < nI (v / 1000)) ↔ 3 < v / 1000 := nI_ltI (a := 3) (by omega) (by omega)
  by_cases c : 3 < v / 1000
  · rw [if_pos (q.mpr c)]
    have hT' := hT
    obtain ⟨hw, rfl, hr, hp⟩ := hT
    obtain ⟨w, h1⟩ := e_isTrue (F := F) (pl := pl) (by omega) hw hr (h := v / 1000) (a := v / 100 % 10) (b := v / 10 % 10) (c := v % 10) (by omega) (by omega) (by omega) (by omega) (by omega)
    obtain ⟨w', h2⟩ := does_st (F := F) (ra := ra) hF hw hp hsn (h := v / 1000) (a := v / 100 % 10) (b := v / 10 % 10) (c := v % 10) (by omega) (by omega) (by omega) (by omega) (by omega)
    refine ⟨_, w, nI n, trows, trial, w', n, g, ?_, h2, hT'⟩
    rw [h1]
    simp only [bnd2, z01]
  · rw [if_neg (fun h => c (q.mp h))]
    obtain ⟨r, ts', tr', t', n', g', h1, h2, h3⟩ := item_act (F := F) (sines := sines) (ra := ra) hF hT (h := v / 1000) (a := v / 100 % 10) (b := v / 10 % 10) (c := v % 10) (by omega) (by omega) (by omega) (by omega)
    refine ⟨r, pl, ts', tr', t', ra, n', g', ?_, h2, h3⟩
    rw [h1]
    simp only [bnd3, z01]
theorem wl_in {F v k : Nat} (hv : v < 2 ^ 63) (hk : k ≤ 4) : ∀ (m i fuel w : Nat), m + i = k → m < fuel → w = v / 10000 ^ i → f_X5_withoutLast_L5 F fuel (nI k) (lN w) (nI i) = some (lN (v / 10000 ^ k)) := by
  intro m
  induction m with
  | zero =>
    intro i fuel w hm hf hw
    have e : i = k := by omega
    subst e
    obtain ⟨f, rfl⟩ : ∃ f, fuel = f + 1 := ⟨fuel - 1, by omega⟩
    show f_X5_withoutLast_B5 F _ _ _ _ = _
    unfold f_X5_withoutLast_B5
    rw [if_pos (nI_le (Nat.le_refl _) (by omega)), hw]
  | succ m ih =>
    intro i fuel w hm hf hw
    obtain ⟨f, rfl⟩ : ∃ f, fuel = f + 1 := ⟨fuel - 1, by omega⟩
    show f_X5_withoutLast_B5 F (f_X5_withoutLast_L5 F f) _ _ _ = _
    unfold f_X5_withoutLast_B5
    have hwl : w < 2 ^ 63 := by rw [hw]; exact Nat.lt_of_le_of_lt (Nat.div_le_self _ _) hv
    rw [if_neg (nI_ge (by omega) (by omega)), show lN w / (10000 : Int64) = lN (w / 10000) from pk_lDiv (b := 10000) hwl (by omega) (by omega), nI_1]
    simp only [nmd]
    exact ih (i + 1) f (w / 10000) (by omega) (by omega) (by rw [hw, Nat.div_div_eq_div_mul, Nat.pow_succ])
theorem e_wl {F v k : Nat} (hF : 10 < F) (hv : v < 2 ^ 63) (hk : k ≤ 4) : f_X5_withoutLast F (lN v) (nI k) = some (lN (v / 10000 ^ k)) := wl_in hv hk k 0 F v (by omega) (by omega) (by rw [Nat.pow_zero, Nat.div_one])
theorem lp_in {F k : Nat} (hk : k ≤ 4) : ∀ (m i fuel w : Nat), m + i = k → m < fuel → w = 10000 ^ i → f_X6_longPower_L5 F fuel (10000 : Int64) (nI k) (lN w) (nI i) = some (lN (10000 ^ k)) := by
  intro m
  induction m with
  | zero =>
    intro i fuel w hm hf hw
    have e : i = k := by omega
    subst e
    obtain ⟨f, rfl⟩ : ∃ f, fuel = f + 1 := ⟨fuel - 1, by omega⟩
    show f_X6_longPower_B5 F _ _ _ _ _ = _
    unfold f_X6_longPower_B5
    rw [if_pos (nI_le (Nat.le_refl _) (by omega)), hw]
  | succ m ih =>
    intro i fuel w hm hf hw
    obtain ⟨f, rfl⟩ : ∃ f, fuel = f + 1 := ⟨fuel - 1, by omega⟩
    show f_X6_longPower_B5 F (f_X6_longPower_L5 F f) _ _ _ _ = _
    unfold f_X6_longPower_B5
    rw [if_neg (nI_ge (by omega) (by omega)), show lN w * (10000 : Int64) = lN (w * 10000) from lN_mul w 10000, nI_1]
    simp only [nmd]
    exact ih (i + 1) f (w * 10000) (by omega) (by omega) (by rw [hw, Nat.pow_succ])
theorem e_lp {F k : Nat} (hF : 10 < F) (hk : k ≤ 4) : f_X6_longPower F (10000 : Int64) (nI k) = some (lN (10000 ^ k)) := lp_in hk k 0 F 1 (by omega) (by omega) (by rw [Nat.pow_zero])
theorem p10k {k : Nat} (hk : k ≤ 4) : 0 < 10000 ^ k ∧ 10000 ^ k ≤ 10000000000000000 := by
  have : ∀ k, k < 5 → 0 < 10000 ^ k ∧ 10000 ^ k ≤ 10000000000000000 := by decide
  exact this k (by omega)
theorem judge_in {N F v q : Nat} {sines : Nat → Int32} (ns nt : Int32) (nr page : Nat → Int32) (hF : F = 1000) (hsn : ∀ j, j < 12 → sines j = sinT j) (hv : v < 2 ^ 63) (hq : q ≤ 4) : ∀ (k i fuel fuel' n : Nat) (g : Nat → Nat → Nat) (ts : Int32) (trows trial ra pl : Nat → Int32), k + i = q → k < fuel → k < fuel' → TR N n g ts trows trial → ∃ (r : Int32) (pl' : Nat → Int32) (ts' tt' : Int32) (tr' t' a' : Nat → Int32), f_X5_judge_L43 F ns nt nr fuel pl ts (nI N) trows (nI q) (lN v) (nI i) = some (r, pl', ts', tt', tr') ∧ f_X6_judge_L44 F (nI N) page sines fuel' (0 : Int32) trial ra (nI q) (lN v) (nI i) = some (r, 0, t', a') := by
  intro k
  induction k with
  | zero =>
    intro i fuel fuel' n g ts trows trial ra pl hk hf hf' hT
    have e : i = q := by omega
    subst e
    obtain ⟨f, rfl⟩ : ∃ f, fuel = f + 1 := ⟨fuel - 1, by omega⟩
    obtain ⟨f', rfl⟩ : ∃ f', fuel' = f' + 1 := ⟨fuel' - 1, by omega⟩
    refine ⟨-9, pl, ts, nI N, trows, trial, ra, ?_, ?_⟩
    · show f_X5_judge_B43 F ns nt nr _ _ _ _ _ _ _ _ = _
      unfold f_X5_judge_B43
      rw [if_pos (nI_le (Nat.le_refl _) (by omega))]
    · show f_X6_judge_B44 F (nI N) page sines _ _ _ _ _ _ _ = _
      unfold f_X6_judge_B44
      rw [if_pos (nI_le (Nat.le_refl _) (by omega))]
  | succ k ih =>
    intro i fuel fuel' n g ts trows trial ra pl hk hf hf' hT
    obtain ⟨f, rfl⟩ : ∃ f, fuel = f + 1 := ⟨fuel - 1, by omega⟩
    obtain ⟨f', rfl⟩ : ∃ f', fuel' = f' + 1 := ⟨fuel' - 1, by omega⟩
    have hp := p10k (show k ≤ 4 by omega)
    have es : nI q - (1 : Int32) - nI i = nI k := by
      rw [fa_lit 1, pk_sub (by omega), pk_sub (by omega)]
      congr 1
      omega
    have hd : v / 10000 ^ k < 2 ^ 63 := Nat.lt_of_le_of_lt (Nat.div_le_self _ _) hv
    have e1 : remL (lN (v / 10000 ^ k)) (10000 : Int64) = lN (v / 10000 ^ k % 10000) := pk_lRem (b := 10000) hd (by omega) (by omega)
    have hm : v / 10000 ^ k % 10000 < 10000 := Nat.mod_lt _ (by omega)
    obtain ⟨r, pl', ts', tr', t', a', n', g', h1, h2, h3⟩ := item (F := F) (ra := ra) (pl := pl) hF hsn hT hm
    have h5 : f_X5_judge_L43 F ns nt nr (f + 1) pl ts (nI N) trows (nI q) (lN v) (nI i) = (if (if r = true then (1 : Int32) else 0) = 0 then some (nI i, pl', ts', nI N, tr') else f_X5_judge_L43 F ns nt nr f pl' ts' (nI N) tr' (nI q) (lN v) (nI (i + 1))) := by
      show f_X5_judge_B43 F ns nt nr (f_X5_judge_L43 F ns nt nr f) _ _ _ _ _ _ _ = _
      unfold f_X5_judge_B43
      rw [if_neg (nI_ge (by omega) (by omega)), es, e_wl (by omega) hv (by omega)]
      simp only [bnd1_some']
      rw [e1, lN_i, h1]
      simp only [bnd4, nmd, nI_1]
    have h6 : f_X6_judge_L44 F (nI N) page sines (f' + 1) (0 : Int32) trial ra (nI q) (lN v) (nI i) = (if (if r = true then (1 : Int32) else 0) = 0 then some (nI i, 0, t', a') else f_X6_judge_L44 F (nI N) page sines f' (0 : Int32) t' a' (nI q) (lN v) (nI (i + 1))) := by
      show f_X6_judge_B44 F (nI N) page sines (f_X6_judge_L44 F (nI N) page sines f') _ _ _ _ _ _ = _
      unfold f_X6_judge_B44
      have hz : ¬ lN (10000 ^ k) = 0 := fun e => by
        have := (pk_lEQ (a := 10000 ^ k) (b := 0) (by omega) (by omega)).mp e
        omega
      rw [if_neg (nI_ge (by omega) (by omega)), es, e_lp (by omega) (by omega)]
      simp only [bnd1_some']
      unfold chkDL
      rw [if_neg hz, pk_lDiv hv hp.1 (by omega), e1, lN_i]
      simp only [nmd]
      rw [h2]
      simp only [bnd3, nmd, nI_1]
    rw [h5, h6]
    cases r with
    | false => exact ⟨nI i, pl', ts', nI N, tr', t', a', rfl, rfl⟩
    | true => exact ih (i + 1) f f' n' g' ts' tr' t' a' pl' (by omega) (by omega) (by omega) h3
theorem core_judge {N n F : Nat} {g : Nat → Nat → Nat} {size st stations : Int32} {rows page sines : Nat → Int32} (hF : F = 1000) (h : CV N n g size st rows stations page) (hsn : ∀ j, j < 12 → sines j = sinT j) (y1 : Int32) (y2 : Int64) (th ts tt : Int32) (pl trows rat trial : Nat → Int32) : ∃ (r : Int32) (pl' : Nat → Int32) (ts' tt' : Int32) (tr' t' a' : Nat → Int32), f_X5_judge F y1 y2 size st rows pl ts tt trows = some (r, pl', ts', tt', tr') ∧ f_X6_judge F y1 y2 th stations page trial sines rat = some (r, 0, t', a') := by
  obtain ⟨hw, ⟨rfl, rfl, hr⟩, hp, rfl⟩ := h
  have hn := hw.1
  have no : ∀ A B, A = some ((-2 : Int32), pl, ts, tt, trows) → B = some ((-2 : Int32), (0 : Int32), trial, rat) → ∃ (r : Int32) (pl' : Nat → Int32) (ts' tt' : Int32) (tr' t' a' : Nat → Int32), A = some (r, pl', ts', tt', tr') ∧ B = some (r, 0, t', a') := fun A B e1 e2 => ⟨-2, pl, ts, tt, trows, trial, rat, e1, e2⟩
  unfold f_X5_judge f_X6_judge
  have l1 : (1 : Int64).toInt = 1 := by decide
  have l4 : (4 : Int64).toInt = 4 := by decide
  have k1 : (1 : Int32).toInt = 1 := by decide
  have k4 : (4 : Int32).toInt = 4 := by decide
  have e : ((1 : Int64) ≤ y1.toInt64 ∧ y1.toInt64 ≤ (4 : Int64)) ↔ (1 ≤ y1.toInt ∧ y1.toInt ≤ 4) := by rw [fa_le64, fa_le64, Int32.toInt_toInt64, l1, l4]
  rw [e_in]
  simp only [bnd1_some', e, fa_lt, k1, k4]
  rcases tri y1 (M := 4) (by decide) with h0 | h0 | ⟨q, hq, rfl⟩
  · exact no _ _ (by rw [if_pos (show y1.toInt < 1 by omega)]) (by rw [if_neg (show ¬ (1 ≤ y1.toInt ∧ y1.toInt ≤ 4) by omega)]; rfl)
  · exact no _ _ (by rw [if_neg (show ¬ y1.toInt < 1 by omega), if_pos (show 4 < y1.toInt by omega)]) (by rw [if_neg (show ¬ (1 ≤ y1.toInt ∧ y1.toInt ≤ 4) by omega)]; rfl)
  rw [nI_toInt (show q < 2 ^ 31 by omega)]
  by_cases hq1 : 1 ≤ q
  · have hp := p10k hq
    rw [if_neg (show ¬ (q : Int) < 1 by omega), if_neg (show ¬ (4 : Int) < q by omega), if_pos (show (1 ≤ (q : Int) ∧ (q : Int) ≤ 4) by omega), if_neg (show ¬ (1 : Int32) = 0 by decide), e_lp (by omega) hq]
    simp only [bnd1_some']
    rw [e_in]
    simp only [bnd1_some']
    by_cases hneg : y2 < 0
    · have hi := (fa_lt64 _ _).mp hneg
      rw [lit_0L] at hi
      refine no _ _ (by rw [if_pos hneg]) ?_
      rw [if_neg (show ¬ ((0 : Int64) ≤ y2 ∧ y2 ≤ lN (10000 ^ q) - (1 : Int64)) from fun hh => by have := (fa_le64 _ _).mp hh.1; rw [lit_0L] at this; omega)]
      rfl
    · obtain ⟨v, hv, rfl⟩ := pk_lOf hneg
      rw [if_neg hneg, e_wl (by omega) hv hq]
      simp only [bnd1_some']
      have es : lN (10000 ^ q) - (1 : Int64) = lN (10000 ^ q - 1) := lN_sub (b := 1) (by omega)
      have hcond : ((0 : Int64) ≤ lN v ∧ lN v ≤ lN (10000 ^ q - 1)) ↔ v < 10000 ^ q := by
        rw [show ((0 : Int64) ≤ lN v) ↔ 0 ≤ v from pk_lLE (a := 0) (by omega) hv, pk_lLE hv (by omega)]
        omega
      have hz : (lN (v / 10000 ^ q) = 0) ↔ v < 10000 ^ q := by
        rw [show (lN (v / 10000 ^ q) = 0) ↔ v / 10000 ^ q = 0 from pk_lEQ (b := 0) (Nat.lt_of_le_of_lt (Nat.div_le_self _ _) hv) (by omega)]
        exact ⟨fun hh => (Nat.div_eq_zero_iff.mp hh).resolve_left (by omega), fun hh => Nat.div_eq_of_lt hh⟩
      rw [es]
      simp only [hcond, hz]
      by_cases cv : v < 10000 ^ q
      · rw [if_pos cv, if_pos cv, if_neg (show ¬ (1 : Int32) = 0 by decide)]
        obtain ⟨R', c1, c2⟩ := e_copy (F := F) (by omega) ts tt (nI n) (nI N) trows rows
        obtain ⟨T', c3, c4⟩ := e_trial (F := F) (by omega) trial page
        rw [c1, c3]
        simp only [bnd1_some', bnd3]
        exact judge_in (nI n) (nI N) rows page hF hsn hv hq q 0 F F n g (nI n) R' T' rat pl (by omega) (by omega) (by omega) ⟨hw, rfl, RR_cong hn c2 hr, PP_cong hn c4 ‹_›⟩
      · rw [if_neg cv, if_neg cv]
        exact no _ _ rfl rfl
  · exact no _ _ (by rw [if_pos (show (q : Int) < 1 by omega)]) (by rw [if_neg (show ¬ (1 ≤ (q : Int) ∧ (q : Int) ≤ 4) by omega)]; rfl)
