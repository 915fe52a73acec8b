/-! ===== adjust: rows filled, solved, squares ===== -/
theorem fillL_in {F : Nat} : ∀ (k i fuel : Nat) (P : Nat → Int64), k + i = 40 → k < fuel → (∀ j, j < i → P j = 0) → ∃ w, f_J7_fill_d0a16_L6 F fuel P (0 : Int64) (nI i) (40 : Int32) = some w ∧ ∀ j, j < 40 → w j = 0 := by
  intro k
  induction k with
  | zero =>
    intro i fuel P hk hf h
    have e : i = 40 := by omega
    subst e
    obtain ⟨f, rfl⟩ : ∃ f, fuel = f + 1 := ⟨fuel - 1, by omega⟩
    refine ⟨P, ?_, h⟩
    show f_J7_fill_d0a16_B6 F _ _ _ _ _ = _
    unfold f_J7_fill_d0a16_B6
    rw [if_pos (show (40 : Int32) ≤ nI 40 from nI_le (Nat.le_refl 40) (by omega))]
  | succ k ih =>
    intro i fuel P hk hf h
    obtain ⟨f, rfl⟩ : ∃ f, fuel = f + 1 := ⟨fuel - 1, by omega⟩
    obtain ⟨w, h1, h2⟩ := ih (i + 1) f (vp_updL P i 0) (by omega) (by omega) (fun j hj => by
      by_cases e : j = i
      · rw [e, pk_uLs]
      · rw [pk_uLn e]; exact h j (by omega))
    refine ⟨w, ?_, h2⟩
    show f_J7_fill_d0a16_B6 F (f_J7_fill_d0a16_L6 F f) _ _ _ _ = _
    unfold f_J7_fill_d0a16_B6
    have c : ¬ (40 : Int32) ≤ nI i := fun h => absurd ((nI_leI (a := 40) (by omega) (by omega)).mp h) (by omega)
    rw [if_neg c]
    simp (disch := omega) only [nmd, chk_nI, cl_nI, nI_1]
    exact h1
theorem e_fillL {F : Nat} (hF : 40 < F) (P : Nat → Int64) : ∃ w, f_J7_fill_d0a16 F (0 : Int64) P = some w ∧ ∀ j, j < 40 → w j = 0 := fillL_in 40 0 F P (by omega) (by omega) (fun j hj => absurd hj (Nat.not_lt_zero j))
def off (K s i j : Nat) : Int := if i = j ∧ s ≤ i + 1 ∧ K.testBit (i + 1) = false then 1 else 0
theorem st_in {n F : Nat} {K : Nat} {rows : Nat → Int32} (dv ss : Int64) (x4 : Int32) (hK : K < 64) : ∀ (k s fuel : Nat) (eq : Nat → Int64), k + s = 6 → 1 ≤ s → k < fuel → ∃ w, f_X3_adjust_L27 F (nI n) rows fuel dv ss eq (nI K) x4 (nI s) = f_X3_adjust_L67 F (nI n) rows F dv ss w x4 (0 : Int32) ∧ Eq8 w eq (off K s) := by
  intro k
  induction k with
  | zero =>
    intro s fuel eq hk hs hf
    have e : s = 6 := by omega
    subst e
    obtain ⟨f, rfl⟩ : ∃ f, fuel = f + 1 := ⟨fuel - 1, by omega⟩
    refine ⟨eq, ?_, fun i hi j hj => ?_⟩
    · show f_X3_adjust_B27 F (nI n) rows _ _ _ _ _ _ _ = _
      unfold f_X3_adjust_B27
      rw [if_pos (show (6 : Int32) ≤ nI 6 from nI_le (Nat.le_refl 6) (by omega))]
    · unfold off
      rw [if_neg (by omega)]; exact (Int64.add_zero _).symm
  | succ k ih =>
    intro s fuel eq hk hs hf
    obtain ⟨f, rfl⟩ : ∃ f, fuel = f + 1 := ⟨fuel - 1, by omega⟩
    have c : ¬ (6 : Int32) ≤ nI s := fun h => absurd ((nI_leI (a := 6) (by omega) (by omega)).mp h) (by omega)
    obtain ⟨w1, a1, b1⟩ := e_addTo (s := s) (c := s) (by omega) (by omega) (iL (if K.testBit s = false then 1 else 0)) eq
    obtain ⟨w, h1, h2⟩ := ih (s + 1) f w1 (by omega) (by omega) (by omega)
    refine ⟨w, ?_, fun i hi j hj => ?_⟩
    · show f_X3_adjust_B27 F (nI n) rows (f_X3_adjust_L27 F (nI n) rows f) _ _ _ _ _ _ = _
      unfold f_X3_adjust_B27 f_X3_adjust_J55
      rw [if_neg c, e_holds (by omega) (by omega)]
      simp only [bnd1_some', nmd, i01]
      cases hb : K.testBit s with
      | true =>
        rw [hb] at a1
        rw [if_neg (show ¬ true = false by decide), show (0 : Int64) = iL (if true = false then 1 else 0) from rfl, a1]
        simp only [bnd1_some', nI_1]
        exact h1
      | false =>
        rw [hb] at a1
        rw [if_pos rfl, show (1 : Int64) = iL (if false = false then 1 else 0) from rfl, a1]
        simp only [bnd1_some', nI_1]
        exact h1
    · rw [h2 i hi j hj, b1 i hi j hj, it_L, Int64.add_assoc, iL_add]
      congr 2
      unfold off
      by_cases d : i = j
      · subst d
        by_cases d2 : i + 1 = s
        · subst d2
          rw [if_pos ⟨rfl, rfl⟩, if_neg (show ¬ (i = i ∧ i + 1 + 1 ≤ i + 1 ∧ K.testBit (i + 1) = false) from fun q => absurd q.2.1 (by omega)), Int.add_zero]
          by_cases z : K.testBit (i + 1) = false
          · rw [if_pos z, if_pos ⟨rfl, Nat.le_refl _, z⟩]
          · rw [if_neg z, if_neg (fun q => z q.2.2)]
        · rw [if_neg (fun h => d2 h.1), Int.zero_add]
          by_cases z : i = i ∧ s ≤ i + 1 ∧ K.testBit (i + 1) = false
          · rw [if_pos z, if_pos ⟨rfl, by omega, z.2.2⟩]
          · rw [if_neg z, if_neg (fun q => z ⟨rfl, by omega, q.2.2⟩)]
      · rw [if_neg (by omega), if_neg (fun h => d h.1), if_neg (fun h => d h.1)]; rfl
theorem legs_in {n F S K U : Nat} {g : Nat → Nat → Nat} {rows : Nat → Int32} {e0 : Nat → Int64} (dv ss : Int64) (hF : 8 < F) (hg : WG n g) (hr : RR n g rows) (hU : U < 2 ^ 31) (hUb : ∀ l, l < n → U.testBit l = uS g S K l) : ∀ (k l fuel : Nat) (eq : Nat → Int64), k + l = n → k < fuel → Eq8 eq e0 (fun i j => sg (fun x => if uS g S K x = true then ent g x i j else 0) l) → ∃ w, f_X3_adjust_L67 F (nI n) rows fuel dv ss eq (nI U) (nI l) = bnd2 (f_X3_solve F dv w) (fun w11 w12 => f_X3_adjust_L111 F (nI n) rows F w11 (0 : Int64) w12 (nI U) (0 : Int32)) ∧ Eq8 w e0 (fun i j => sg (fun x => if uS g S K x = true then ent g x i j else 0) n) := by
  have hn := hg.1
  intro k
  induction k with
  | zero =>
    intro l fuel eq hk hf h
    have e : l = n := by omega
    subst e
    obtain ⟨f, rfl⟩ : ∃ f, fuel = f + 1 := ⟨fuel - 1, by omega⟩
    refine ⟨eq, ?_, h⟩
    show f_X3_adjust_B67 F (nI l) rows _ _ _ _ _ _ = _
    unfold f_X3_adjust_B67
    rw [if_pos (nI_le (Nat.le_refl l) (by omega))]
  | succ k ih =>
    intro l fuel eq hk hf h
    obtain ⟨f, rfl⟩ : ∃ f, fuel = f + 1 := ⟨fuel - 1, by omega⟩
    have hl : l < n := by omega
    have c : ¬ nI n ≤ nI l := nI_ge hl (by omega)
    cases hb : uS g S K l with
    | true =>
      obtain ⟨w1, a1, b1⟩ := e_enter hF hg hr hl eq
      obtain ⟨w, h1, h2⟩ := ih (l + 1) f w1 (by omega) (by omega) (fun i hi j hj => by
        rw [b1 i hi j hj, h i hi j hj, Int64.add_assoc, iL_add]
        congr 2
        show _ = sg (fun x => if uS g S K x = true then ent g x i j else 0) l + (if uS g S K l = true then ent g l i j else 0)
        rw [if_pos hb])
      refine ⟨w, ?_, h2⟩
      show f_X3_adjust_B67 F (nI n) rows (f_X3_adjust_L67 F (nI n) rows f) _ _ _ _ _ = _
      unfold f_X3_adjust_B67 f_X3_adjust_J93
      rw [if_neg c, e_holds hU (by omega), hUb l hl]
      simp only [bnd1_some', nmd, i01]
      rw [hb]
      rw [if_neg (show ¬ true = false by decide), a1]
      simp only [bnd1_some', nI_1]
      exact h1
    | false =>
      obtain ⟨w, h1, h2⟩ := ih (l + 1) f eq (by omega) (by omega) (fun i hi j hj => by
        rw [h i hi j hj]
        congr 2
        show _ = sg (fun x => if uS g S K x = true then ent g x i j else 0) l + (if uS g S K l = true then ent g l i j else 0)
        rw [hb, if_neg (by decide), Int.add_zero])
      refine ⟨w, ?_, h2⟩
      show f_X3_adjust_B67 F (nI n) rows (f_X3_adjust_L67 F (nI n) rows f) _ _ _ _ _ = _
      unfold f_X3_adjust_B67 f_X3_adjust_J93
      rw [if_neg c, e_holds hU (by omega), hUb l hl]
      simp only [bnd1_some', nmd, i01]
      rw [hb]
      rw [if_pos rfl, nI_1]
      exact h1
/-! residuals and their squares -/
def EN (eq : Nat → Int64) (Nn : Nat → Nat → Int) : Prop := ∀ i, i < 5 → ∀ ax, ax < 3 → eq (8 * i + (5 + ax)) = iL (Nn ax i)
theorem e_coord {eq : Nat → Int64} {Nn : Nat → Nat → Int} (h : EN eq Nn) {s ax : Nat} (hs : s < 6) (hax : ax < 3) : f_X3_coordinate (nI s) (nI ax) eq = some (iL (Yx (Nn ax) s)) := by
  unfold f_X3_coordinate Yx
  have e : (5 : Int32) + nI ax = nI (5 + ax) := by rw [fa_lit 5, nI_add]
  rw [e]
  by_cases c : s = 0
  · subst c
    rw [if_pos rfl]
    unfold f_X3_entry
    rw [if_pos (show nI 0 - (1 : Int32) < 0 by decide)]
    rfl
  · obtain ⟨s', rfl⟩ : ∃ s', s = s' + 1 := ⟨s - 1, by omega⟩
    rw [nI_s1, if_neg (by omega), e_entry eq (by omega) (by omega), h s' (by omega) ax hax]
    rfl
def rsd (g : Nat → Nat → Nat) (D : Int) (Nn : Nat → Nat → Int) (l ax : Nat) : Int := vI g ax l * D - dl g (Nn ax) l
theorem e_residual {n : Nat} {g : Nat → Nat → Nat} {rows : Nat → Int32} {eq : Nat → Int64} {Nn : Nat → Nat → Int} {D : Int} (hg : WG n g) (hr : RR n g rows) (h : EN eq Nn) {l ax : Nat} (hl : l < n) (hax : ax < 3) : f_X3_residual (nI l) (nI ax) (iL D) eq rows = some (iL (rsd g D Nn l ax)) := by
  have h2 := hg.2 l hl
  have hn := hg.1
  unfold f_X3_residual
  rw [show f_X0_get (nI l) (4 : Int32) rows = some (nI (g l 4)) from g_row (j := 4) hr hn hl (by omega), show f_X0_get (nI l) (5 : Int32) rows = some (nI (g l 5)) from g_row (j := 5) hr hn hl (by omega)]
  have ev : f_X0_vector (nI l) (nI ax) rows = some (vc g l ax) := e_vector hg hr hl hax
  simp only [bnd1_some']
  rw [e_coord h (by omega) hax, e_coord h (by omega) hax, ev]
  simp only [bnd1_some', nmd]
  rw [vc_L, iL_mul, iL_sub, iL_sub]
  rfl
def sqv (g : Nat → Nat → Nat) (D : Int) (Nn : Nat → Nat → Int) (l : Nat) : Int := sg (fun ax => rsd g D Nn l ax * rsd g D Nn l ax) 3
theorem sq_in {n F : Nat} {g : Nat → Nat → Nat} {rows : Nat → Int32} {eq : Nat → Int64} {Nn : Nat → Nat → Int} {D : Int} (hg : WG n g) (hr : RR n g rows) (h : EN eq Nn) {l : Nat} (hl : l < n) : ∀ (k ax fuel : Nat), k + ax = 3 → k < fuel → f_X3_squareOf_L5 F (iL D) eq rows fuel (nI l) (iL (sg (fun ax => rsd g D Nn l ax * rsd g D Nn l ax) ax)) (nI ax) = some (iL (sqv g D Nn l)) := by
  intro k
  induction k with
  | zero =>
    intro ax fuel hk hf
    have e : ax = 3 := by omega
    subst e
    obtain ⟨f, rfl⟩ : ∃ f, fuel = f + 1 := ⟨fuel - 1, by omega⟩
    show f_X3_squareOf_B5 F _ _ _ _ _ _ _ = _
    unfold f_X3_squareOf_B5
    rw [if_pos (show (3 : Int32) ≤ nI 3 from nI_le (Nat.le_refl 3) (by omega))]
    rfl
  | succ k ih =>
    intro ax fuel hk hf
    obtain ⟨f, rfl⟩ : ∃ f, fuel = f + 1 := ⟨fuel - 1, by omega⟩
    have c : ¬ (3 : Int32) ≤ nI ax := fun h => absurd ((nI_leI (a := 3) (by omega) (by omega)).mp h) (by omega)
    show f_X3_squareOf_B5 F _ _ _ (f_X3_squareOf_L5 F (iL D) eq rows f) _ _ _ = _
    unfold f_X3_squareOf_B5
    rw [if_neg c, e_residual hg hr h hl (by omega)]
    simp only [bnd1_some', nmd, nI_1]
    rw [iL_mul, iL_add]
    exact ih (ax + 1) f (by omega) (by omega)
theorem e_squareOf {n F : Nat} {g : Nat → Nat → Nat} {rows : Nat → Int32} {eq : Nat → Int64} {Nn : Nat → Nat → Int} {D : Int} (hF : 8 < F) (hg : WG n g) (hr : RR n g rows) (h : EN eq Nn) {l : Nat} (hl : l < n) : f_X3_squareOf F (nI l) (iL D) eq rows = some (iL (sqv g D Nn l)) := sq_in hg hr h hl 3 0 F (by omega) (by omega)
theorem sums_in {n F S K U : Nat} {g : Nat → Nat → Nat} {rows : Nat → Int32} {eq : Nat → Int64} {Nn : Nat → Nat → Int} {D : Int} (hF : 8 < F) (hg : WG n g) (hr : RR n g rows) (h : EN eq Nn) (hU : U < 2 ^ 31) (hUb : ∀ l, l < n → U.testBit l = uS g S K l) : ∀ (k l fuel : Nat), k + l = n → k < fuel → f_X3_adjust_L111 F (nI n) rows fuel (iL D) (iL (sg (fun x => if uS g S K x = true then sqv g D Nn x else 0) l)) eq (nI U) (nI l) = some (iL D, iL (sg (fun x => if uS g S K x = true then sqv g D Nn x else 0) n), eq) := by
  have hn := hg.1
  intro k
  induction k with
  | zero =>
    intro l fuel hk hf
    have e : l = n := by omega
    subst e
    obtain ⟨f, rfl⟩ : ∃ f, fuel = f + 1 := ⟨fuel - 1, by omega⟩
    show f_X3_adjust_B111 F (nI l) rows _ _ _ _ _ _ = _
    unfold f_X3_adjust_B111
    rw [if_pos (nI_le (Nat.le_refl l) (by omega))]
  | succ k ih =>
    intro l fuel hk hf
    obtain ⟨f, rfl⟩ : ∃ f, fuel = f + 1 := ⟨fuel - 1, by omega⟩
    have hl : l < n := by omega
    have c : ¬ nI n ≤ nI l := nI_ge hl (by omega)
    have hi := ih (l + 1) f (by omega) (by omega)
    show f_X3_adjust_B111 F (nI n) rows (f_X3_adjust_L111 F (nI n) rows f) _ _ _ _ _ = _
    unfold f_X3_adjust_B111 f_X3_adjust_J146
    rw [if_neg c, e_holds hU (by omega), hUb l hl]
    simp only [bnd1_some', nmd, i01]
    have es : sg (fun x => if uS g S K x = true then sqv g D Nn x else 0) (l + 1) = sg (fun x => if uS g S K x = true then sqv g D Nn x else 0) l + (if uS g S K l = true then sqv g D Nn l else 0) := rfl
    cases hb : uS g S K l with
    | true =>
      rw [es, hb, if_pos rfl] at hi
      rw [if_neg (show ¬ true = false by decide), e_squareOf hF hg hr h hl]
      simp only [bnd1_some', nI_1]
      rw [iL_add]
      exact hi
    | false =>
      rw [es, hb, if_neg (by decide), Int.add_zero] at hi
      rw [if_pos rfl, nI_1]
      exact hi
/-! ===== the whole of adjust ===== -/
def AA (g : Nat → Nat → Nat) (n S K i j : Nat) : Int := sg (fun l => if uS g S K l = true then ent g l i j else 0) n + (if i = j ∧ K.testBit (i + 1) = false then 1 else 0)
theorem AA_m {g : Nat → Nat → Nat} {n S K i j : Nat} (hj : j < 5) : AA g n S K i j = mM g n S K i j := by
  unfold AA mM
  rw [sg_cong (f := fun l => if uS g S K l = true then ent g l i j else 0) (g := fun l => if uS g S K l = true then el g l i * el g l j else 0) (fun l _ => by
    unfold ent
    rw [if_pos hj])]
theorem AA_r {g : Nat → Nat → Nat} {n S K i ax : Nat} (hi : i < 5) : AA g n S K i (5 + ax) = rV g n S K (vI g ax) i := by
  unfold AA rV
  rw [if_neg (by omega), Int.add_zero]
  apply sg_cong
  intro l _
  unfold ent
  rw [if_neg (show ¬ 5 + ax < 5 by omega), show 5 + ax - 5 = ax by omega]
theorem el_1 (g : Nat → Nat → Nat) (l i : Nat) : (el g l i).natAbs ≤ 1 := by
  unfold el eL
  by_cases a : g l 5 = i + 1 <;> by_cases b : g l 4 = i + 1 <;> simp [a, b]
theorem sm_const {c n : Nat} : fb_sm (fun _ => c) n = n * c := fb_sm_const c n
theorem AA_sm {n : Nat} {g : Nat → Nat → Nat} (hg : WG n g) (S K : Nat) : Sm (AA g n S K) := by
  have hn := hg.1
  intro i hi j
  constructor
  · intro hj
    unfold AA
    have h1 : (sg (fun l => if uS g S K l = true then ent g l i j else 0) n).natAbs ≤ fb_sm (fun _ => 1) n := sg_ab (fun l hl => by
      split
      · unfold ent
        rw [if_pos hj]
        exact ab_mul (el_1 g l i) (el_1 g l j)
      · exact Nat.zero_le _)
    rw [sm_const] at h1
    split <;> omega
  · intro hj
    by_cases c : j < 5
    · unfold AA
      have h1 : (sg (fun l => if uS g S K l = true then ent g l i j else 0) n).natAbs ≤ fb_sm (fun _ => 1) n := sg_ab (fun l hl => by
        split
        · unfold ent
          rw [if_pos c]
          exact ab_mul (el_1 g l i) (el_1 g l j)
        · exact Nat.zero_le _)
      rw [sm_const] at h1
      split <;> omega
    · unfold AA
      rw [if_neg (show ¬ (i = j ∧ K.testBit (i + 1) = false) by omega), Int.add_zero]
      have h1 : (sg (fun l => if uS g S K l = true then ent g l i j else 0) n).natAbs ≤ fb_sm (fun _ => 99 * 1) n := sg_ab (fun l hl => by
        split
        · unfold ent
          rw [if_neg c]
          exact ab_mul (vI_bd hg hl (by omega)) (el_1 g l i)
        · exact Nat.zero_le _)
      rw [sm_const] at h1
      omega
def DD (g : Nat → Nat → Nat) (n S : Nat) : Int := dt 5 (mM g n S (con g n S))
def NN (g : Nat → Nat → Nat) (n S ax i : Nat) : Int := cX 5 (mM g n S (con g n S)) (rV g n S (con g n S) (vI g ax)) i
def SS (g : Nat → Nat → Nat) (n S : Nat) : Int := sg (fun l => if uS g S (con g n S) l = true then sqv g (DD g n S) (NN g n S) l else 0) n
theorem dt_AA {g : Nat → Nat → Nat} {n S K p : Nat} (hp : p ≤ 5) : dt p (AA g n S K) = dt p (mM g n S K) := dt_cong p (fun r hr c hc => AA_m (by omega))
theorem mM_pos {n : Nat} {g : Nat → Nat → Nat} (hw : LW n g) {S : Nat} (hS : S < 2 ^ n) {q : Nat} (hq : q ≤ 5) : 0 < dt q (mM g n S (con g n S)) := pd_all (m := 5) (fun y hy => mM_pd hw hS y hy) 5 (Nat.le_refl 5) q hq
theorem NN_AA {g : Nat → Nat → Nat} {n S ax i : Nat} : cX 5 (AA g n S (con g n S)) (Ap (AA g n S (con g n S)) (5 + ax)) i = NN g n S ax i := dt_cong 5 (fun r hr c hc => by
  by_cases e : c = i
  · rw [e, rp_s, rp_s]; exact AA_r hr
  · rw [rp_n _ _ _ e, rp_n _ _ _ e]; exact AA_m hc)
theorem e_adjust {n F S : Nat} {g : Nat → Nat → Nat} {rows : Nat → Int32} (hF : 40 < F) (hg : WG n g) (hr : RR n g rows) (hS : S < 2 ^ n) (dv ss : Int64) (eq : Nat → Int64) : ∃ w, f_X3_adjust F (nI S) dv ss eq (nI n) rows = some (iL (DD g n S), iL (SS g n S), w) ∧ EN w (NN g n S) := by
  have hn := hg.1
  have hK := con_lt hg.lw hS
  have hS2 := S_lt hn hS
  obtain ⟨w0, a0, b0⟩ := e_fillL hF eq
  obtain ⟨w1, a1, b1⟩ := st_in (n := n) (F := F) (rows := rows) dv ss (nI (S &&& msk (tch g (con g n S)) n)) hK 5 1 F w0 (by omega) (by omega) (by omega)
  have hU : S &&& msk (tch g (con g n S)) n < 2 ^ 31 := Nat.lt_of_le_of_lt Nat.and_le_left (by omega)
  have hUb : ∀ l, l < n → (S &&& msk (tch g (con g n S)) n).testBit l = uS g S (con g n S) l := fun l hl => by
    unfold uS
    rw [Nat.testBit_and, msk_bit]
    cases hb : S.testBit l with
    | true => rw [con_tch hg.lw hS hl hb]; simp [hl]
    | false => rfl
  obtain ⟨w2, a2, b2⟩ := legs_in (F := F) (e0 := w1) dv ss (by omega) hg hr hU hUb n 0 F w1 (by omega) (by omega) (fun i hi j hj => by
    show w1 (8 * i + j) = w1 (8 * i + j) + iL 0
    exact (Int64.add_zero _).symm)
  obtain ⟨w3, a3, b3⟩ := e_solve (F := F) (A := AA g n S (con g n S)) (eq := w2) (by omega) (AA_sm hg S _) (fun q hq => by rw [dt_AA hq]; exact mM_pos hg.lw hS hq) dv (fun i hi j hj => by
    rw [b2 i hi j hj, b1 i hi j hj, b0 _ (by omega), Int64.zero_add, iL_add]
    unfold AA off
    congr 1
    rw [Int.add_comm]
    congr 1
    by_cases c : i = j ∧ (con g n S).testBit (i + 1) = false
    · rw [if_pos c, if_pos ⟨c.1, by omega, c.2⟩]
    · rw [if_neg c, if_neg (fun h => c ⟨h.1, h.2.2⟩)])
  have hen : EN w3 (NN g n S) := fun i hi ax hax => by rw [b3 i hi _ (by omega), NN_AA]
  refine ⟨w3, ?_, hen⟩
  have hs := sums_in (F := F) (D := DD g n S) (K := con g n S) (by omega) hg hr hen hU hUb n 0 F (by omega) (by omega)
  unfold f_X3_adjust
  rw [e_spread1 (by omega) hg hS hr]
  simp only [bnd1_some']
  rw [show rch g S n 6 1 = con g n S from rfl, e_touching (by omega) hg hr hK]
  simp only [bnd1_some', nmd]
  rw [fa_and, a0]
  simp only [bnd1_some']
  rw [show (1 : Int32) = nI 1 from rfl, a1, show (0 : Int32) = nI 0 from rfl, a2, a3, dt_AA (Nat.le_refl 5)]
  exact hs
