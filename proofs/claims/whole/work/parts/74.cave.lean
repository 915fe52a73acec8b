/-! ===== fault and cave ===== -/
theorem bnd4S {α β γ δ ρ : Type} (x : α) (y : β) (z : γ) (w : δ) (f : α → β → γ → δ → Option ρ) : bnd4 (some (x, y, z, w)) f = f x y z w := rfl
theorem rc_all {F q N : Nat} {c : Nat → Nat} {T : Nat → Int32} (h : TX q c T) (hN1 : 1 ≤ N) (hN6 : N ≤ 6) : ∀ (f k fuel : Nat) (page : Nat → Int32), 2 + 8 * k ≤ q → q ≤ 2 + 8 * k + 8 * f → f < fuel → PP k (gT c k) page → (∃ t pg, rd q c N f (2 + 8 * k) = some t ∧ t < 80 ∧ f_X6_readCave_L76 F (nI q) T fuel (nI (2 + 8 * k)) (nI N) page = some (nI t, nI t, nI N, pg)) ∨ (∃ k' pg, rd q c N f (2 + 8 * k) = none ∧ q = 2 + 8 * k' ∧ f_X6_readCave_L76 F (nI q) T fuel (nI (2 + 8 * k)) (nI N) page = some (-9, nI q, nI N, pg) ∧ PP k' (gT c k') pg) := by
  have hq := h.1
  have stop : ∀ (k fuel : Nat) (page : Nat → Int32), q = 2 + 8 * k → 0 < fuel → f_X6_readCave_L76 F (nI q) T fuel (nI (2 + 8 * k)) (nI N) page = some (-9, nI q, nI N, page) := fun k fuel page e hf => by
    obtain ⟨f, rfl⟩ : ∃ f, fuel = f + 1 := ⟨fuel - 1, by omega⟩
    show f_X6_readCave_B76 F (nI q) T _ _ _ _ = _
    unfold f_X6_readCave_B76
    rw [if_pos (nI_le (by omega) (by omega)), ← e]
  intro f
  induction f with
  | zero =>
    intro k fuel page h1 h2 hf hp
    have e : q = 2 + 8 * k := by omega
    exact Or.inr ⟨k, page, rfl, e, stop k fuel page e (by omega), hp⟩
  | succ f ih =>
    intro k fuel page h1 h2 hf hp
    by_cases e : q = 2 + 8 * k
    · exact Or.inr ⟨k, page, if_pos (by omega), e, stop k fuel page e (by omega), hp⟩
    · obtain ⟨f', rfl⟩ : ∃ f', fuel = f' + 1 := ⟨fuel - 1, by omega⟩
      have er : rd q c N (f + 1) (2 + 8 * k) = (match ff q c N (2 + 8 * k) 8 0 with | some t => some (2 + 8 * k + t) | none => rd q c N f (2 + 8 * k + 8)) := if_neg (by omega)
      have e0 : f_X6_readCave_L76 F (nI q) T (f' + 1) (nI (2 + 8 * k)) (nI N) page = f_X6_readCave_B76 F (nI q) T (f_X6_readCave_L76 F (nI q) T f') (nI (2 + 8 * k)) (nI N) page := rfl
      rw [er, e0]
      unfold f_X6_readCave_B76
      rw [if_neg (nI_ge (by omega) (by omega))]
      rcases e_readLeg h hN1 hN6 hp (show 2 + 8 * k < q by omega) with ⟨t, a1, a2⟩ | ⟨a1, P', a2, a3⟩
      · have t8 : t < 8 := by
          have : ∀ (m j : Nat), ff q c N (2 + 8 * k) m j = some t → j ≤ t ∧ t < j + m := by
            intro m
            induction m with
            | zero => intro j hh; cases hh
            | succ m ih2 =>
              intro j hh
              by_cases o : 2 + 8 * k + j < q ∧ okP c N (2 + 8 * k) j
              · rw [ff_s o.1 o.2] at hh
                have := ih2 (j + 1) hh
                omega
              · rw [ff_f o] at hh
                cases hh
                omega
          have := this 8 0 a1
          omega
        rw [a1, a2]
        exact Or.inl ⟨2 + 8 * k + t, page, rfl, by omega, rfl⟩
      · have h7 := ff_none 8 0 a1 7 (by omega) (by omega)
        rw [a1, a2]
        have := ih (k + 1) f' P' (by omega) (by omega) (by omega) a3
        rw [show 2 + 8 * k + 8 = 2 + 8 * (k + 1) by omega]
        exact this
theorem rz_in {F : Nat} {q : Int32} {T : Nat → Int32} (pl rs : Int32) : ∀ (m i fuel : Nat) (P : Nat → Int32), m + i = 50 → m < fuel → (∀ j, j < i → P j = 0) → ∃ P' kb, f_X6_readCave_L7 F q T fuel pl rs P (nI i) = f_X6_readCave_B7 F q T kb pl rs P' (nI 50) ∧ ∀ j, j < 50 → P' j = 0 := by
  intro m
  induction m with
  | zero =>
    intro i fuel P hm hf h
    have e : i = 50 := by omega
    subst e
    obtain ⟨f, rfl⟩ : ∃ f, fuel = f + 1 := ⟨fuel - 1, by omega⟩
    exact ⟨P, f_X6_readCave_L7 F q T f, rfl, h⟩
  | succ m ih =>
    intro i fuel P hm hf h
    obtain ⟨f, rfl⟩ : ∃ f, fuel = f + 1 := ⟨fuel - 1, by omega⟩
    obtain ⟨P', kb, h1, h2⟩ := ih (i + 1) f (upd P i 0) (by omega) (by omega) (fun j hj => by
      by_cases e : j = i
      · rw [e, pk_us]
      · rw [pk_un e]; exact h j (by omega))
    refine ⟨P', kb, ?_, h2⟩
    rw [← h1]
    show f_X6_readCave_B7 F q T (f_X6_readCave_L7 F q T f) _ _ _ _ = _
    unfold f_X6_readCave_B7
    rw [if_neg (show ¬ (50 : Int32) ≤ nI i from nI_ge (b := 50) (by omega) (by omega))]
    simp (disch := omega) only [nmd, chk_nI, cl_nI, nI_1]
theorem e_can0 {q : Nat} {c : Nat → Nat} {L : Nat → Int32} (h : TX q c L) (hi : 0 < q) : f_X4_canStand (nI 0) (nI q) L = some (if decide (c 0 = 67) = true then 1 else 0) := by
  have v0 := e_value h hi
  have l0 : f_X4_letterAt (0 : Int32) (nI q) L = some (nI (c 0)) := e_let h hi
  have e67 : (nI (c 0) = (67 : Int32)) ↔ c 0 = 67 := nI_eq (b := 67) (by have := (h.2 0 hi).1; omega) (by omega)
  unfold f_X4_canStand
  rw [v0, l0]
  simp only [bnd1_some', e67]
  rw [if_neg (show ¬ (2 : Int32) ≤ nI 0 by decide), if_pos (show nI 0 = (0 : Int32) from rfl)]
  by_cases o : c 0 = 67
  · rw [if_pos o, if_pos (decide_eq_true o)]
  · rw [if_neg o, if_neg (by rw [decide_eq_false o]; decide)]
theorem e_can1 {q : Nat} {c : Nat → Nat} {L : Nat → Int32} (h : TX q c L) (hi : 1 < q) : f_X4_canStand (nI 1) (nI q) L = some (if decide (1 ≤ vN (c 1) ∧ vN (c 1) ≤ 6) = true then 1 else 0) := by
  have v0 := e_value h hi
  unfold f_X4_canStand
  rw [v0]
  simp only [bnd1_some']
  rw [if_neg (show ¬ (2 : Int32) ≤ nI 1 by decide), if_neg (show ¬ nI 1 = (0 : Int32) by decide), tb1 _ (vN_lt _)]
  congr 1
  exact okI (by rw [decide_eq_true_iff])
/-- both read the text alike -/
theorem e_text {F q : Nat} {c : Nat → Nat} {L T : Nat → Int32} (hF : F = 1000) (hL : TX q c L) (hT : TX q c T) (place rs : Int32) (readPage : Nat → Int32) : (∃ t place' rs' pg, t < 80 ∧ f_X4_errorAt F (nI q) L = some (nI t) ∧ f_X6_readCave F (nI q) place rs T readPage = some (nI t, place', rs', pg)) ∨ (∃ k N pg, f_X4_errorAt F (nI q) L = some (-9) ∧ f_X6_readCave F (nI q) place rs T readPage = some (-9, nI q, nI N, pg) ∧ q = 2 + 8 * k ∧ vN (c 1) = N ∧ 1 ≤ N ∧ N ≤ 6 ∧ (∀ l, l < k → ff q c N (2 + 8 * l) 8 0 = none) ∧ PP k (gT c k) pg) := by
  have hq := hL.1
  obtain ⟨P, kb, r1, r2⟩ := rz_in (F := F) (q := nI q) (T := T) 0 rs 50 0 F readPage (by omega) (by omega) (fun j hj => absurd hj (Nat.not_lt_zero j))
  have hr : f_X6_readCave F (nI q) place rs T readPage = f_X6_readCave_B7 F (nI q) T kb 0 rs P (nI 50) := r1
  rw [hr]
  unfold f_X6_readCave_B7 f_X4_errorAt
  rw [if_pos (show (50 : Int32) ≤ nI 50 from nI_le (Nat.le_refl 50) (by omega))]
  have e0q : (nI q = (0 : Int32)) ↔ q = 0 := nI_eq (b := 0) (by omega) (by omega)
  obtain ⟨F1, hF1⟩ : ∃ F1, F = F1 + 1 := ⟨F - 1, by omega⟩
  obtain ⟨F2, hF2⟩ : ∃ F2, F1 = F2 + 1 := ⟨F1 - 1, by omega⟩
  have lF : f_X4_errorAt_L2 F (nI q) L F (0 : Int32) = f_X4_errorAt_L2 F (nI q) L (F1 + 1) (nI 0) := by rw [← hF1]; rfl
  rw [lF]
  by_cases q0 : q = 0
  · rw [if_pos (e0q.mpr q0)]
    refine Or.inl ⟨0, _, _, _, by omega, ?_, rfl⟩
    subst q0
    show f_X4_errorAt_B2 F (nI 0) L (f_X4_errorAt_L2 F (nI 0) L F1) (nI 0) = _
    rfl
  rw [if_neg (fun z => q0 (e0q.mp z)), chk_0 (by omega) (by omega), show Int32.toNatClampNeg (0 : Int32) = 0 from rfl, er_step hL (show 0 < q by omega) (e_can0 hL (by omega)), (hT.2 0 (by omega)).2]
  have e67 : (nI (c 0) = (67 : Int32)) ↔ c 0 = 67 := nI_eq (b := 67) (by have := (hT.2 0 (by omega)).1; omega) (by omega)
  by_cases o0 : c 0 = 67
  · rw [if_pos (decide_eq_true o0), if_pos (e67.mpr o0)]
    have fg : f_X6_figure (1 : Int32) (6 : Int32) (nI q) (1 : Int32) T = _ := e_fig (i := 1) (a := 1) (b := 6) hT (by omega) (by omega) (by omega)
    rw [fg]
    by_cases q1 : q = 1
    · subst q1
      rw [if_neg (by omega)]
      refine Or.inl ⟨1, _, _, _, by omega, ?_, rfl⟩
      rw [hF2]
      rfl
    · rw [hF2, er_step hL (show 0 + 1 < q by omega) (e_can1 hL (by omega))]
      by_cases o1 : 1 ≤ vN (c 1) ∧ vN (c 1) ≤ 6
      · rw [if_pos (decide_eq_true o1), if_pos ⟨by omega, o1⟩]
        have e9 : ¬ nI (vN (c 1)) = (-9 : Int32) := nI_9 (by omega)
        simp only [bnd2]
        rw [if_neg e9]
        have hp0 : PP 0 (gT c 0) P := ⟨r2 0 (by omega), r2 1 (by omega), fun l hl => absurd hl (Nat.not_lt_zero l)⟩
        have a1 := er_all (F := F) hL rfl o1.2 9 0 F2 (by omega) (by omega) (by omega)
        have a2 := rc_all (F := F) hT o1.1 o1.2 9 0 F P (by omega) (by omega) (by omega) hp0
        have a1' : f_X4_errorAt_L2 F (nI q) L F2 (nI (0 + 1 + 1)) = some (oN (rd q c (vN (c 1)) 9 (2 + 8 * 0))) := a1
        rw [a1']
        rcases a2 with ⟨t, pg, b1, b2, b3⟩ | ⟨k', pg, b1, b2, b3, b4⟩
        · exact Or.inl ⟨t, _, _, pg, b2, by rw [b1]; rfl, b3⟩
        · obtain ⟨k2, d1, d2, d3⟩ := rd_none 9 0 b1 (by omega) (by omega)
          have : k2 = k' := by omega
          subst this
          exact Or.inr ⟨k2, vN (c 1), pg, by rw [b1]; rfl, b3, b2, rfl, o1.1, o1.2, fun l hl => d3 l (Nat.zero_le l) hl, b4⟩
      · rw [if_neg (by rw [decide_eq_false o1]; decide), if_neg (fun z => o1 z.2)]
        exact Or.inl ⟨1, _, _, _, by omega, rfl, rfl⟩
  · rw [if_neg (by rw [decide_eq_false o0]; decide), if_neg (fun z => o0 (e67.mp z))]
    exact Or.inl ⟨0, _, _, _, by omega, rfl, rfl⟩
theorem rt_tx {len ts : Int32} {letters text : Nat → Int32} (h : RelT len letters ts text) : ∃ q c, len = nI q ∧ ts = nI q ∧ TX q c letters ∧ TX q c text := by
  obtain ⟨q, h1, h2, h3, h4⟩ := h
  refine ⟨q, fun i => (letters i).toInt.toNat, h2, h3, ⟨h1, fun i hi => ?_⟩, ⟨h1, fun i hi => ?_⟩⟩
  · obtain ⟨x, x1, x2, x3⟩ := h4 i hi
    show (letters i).toInt.toNat < 256 ∧ letters i = nI (letters i).toInt.toNat
    rw [x2, nI_toInt (by omega), Int.toNat_natCast]
    exact ⟨by omega, rfl⟩
  · obtain ⟨x, x1, x2, x3⟩ := h4 i hi
    show (letters i).toInt.toNat < 256 ∧ text i = nI (letters i).toInt.toNat
    rw [x2, nI_toInt (by omega), Int.toNat_natCast]
    exact ⟨by omega, x3⟩
theorem core_fault {F : Nat} {len ts : Int32} {letters text : Nat → Int32} (hF : F = 1000) (hT : RelT len letters ts text) (th place rs : Int32) (readPage : Nat → Int32) : ∃ r place' rs' readPage', f_X5_fault F len letters = some r ∧ f_X6_fault F th ts place rs text readPage = some (r, 0, place', rs', readPage') := by
  obtain ⟨q, c, rfl, rfl, t1, t2⟩ := rt_tx hT
  unfold f_X5_fault f_X6_fault
  rcases e_text hF t1 t2 place rs readPage with ⟨t, pl', rs', pg, a0, a1, a2⟩ | ⟨k, N, pg, a1, a2, a3⟩
  · rw [a1, a2]
    exact ⟨_, _, _, _, rfl, rfl⟩
  · rw [a1, a2]
    exact ⟨_, _, _, _, rfl, rfl⟩
theorem cp_in {F : Nat} {q : Int32} {T : Nat → Int32} (th pl st rs dg : Int32) (rp isK : Nat → Int32) : ∀ (m i fuel : Nat) (P : Nat → Int32), m + i = 50 → m < fuel → (∀ j, j < i → P j = rp j) → ∃ P', f_X6_cave_L27 F q T fuel th pl st rs dg rp P isK (nI i) = some (P' 0, th, pl, st, rs, 0, rp, P', upd (upd isK 0 0) 1 0) ∧ ∀ j, j < 50 → P' j = rp j := by
  intro m
  induction m with
  | zero =>
    intro i fuel P hm hf h
    have e : i = 50 := by omega
    subst e
    obtain ⟨f, rfl⟩ : ∃ f, fuel = f + 1 := ⟨fuel - 1, by omega⟩
    refine ⟨P, ?_, h⟩
    show f_X6_cave_B27 F q T _ _ _ _ _ _ _ _ _ _ = _
    unfold f_X6_cave_B27
    rw [if_pos (show (50 : Int32) ≤ nI 50 from nI_le (Nat.le_refl 50) (by omega)), chk_0 (by omega) (by omega), show chk (1 : Int32) 2 = chk (nI 1) 2 from rfl, chk_nI (by omega) (by omega), chk_0 (by omega) (by omega)]
    rfl
  | succ m ih =>
    intro i fuel P hm hf h
    obtain ⟨f, rfl⟩ : ∃ f, fuel = f + 1 := ⟨fuel - 1, by omega⟩
    obtain ⟨P', h1, h2⟩ := ih (i + 1) f (upd P i (rp i)) (by omega) (by omega) (fun j hj => by
      by_cases e : j = i
      · rw [e, pk_us]
      · rw [pk_un e]; exact h j (by omega))
    refine ⟨P', ?_, h2⟩
    show f_X6_cave_B27 F q T (f_X6_cave_L27 F q T f) _ _ _ _ _ _ _ _ _ = _
    unfold f_X6_cave_B27
    rw [if_neg (show ¬ (50 : Int32) ≤ nI i from nI_ge (b := 50) (by omega) (by omega))]
    simp (disch := omega) only [nmd, chk_nI, cl_nI, nI_1]
    exact h1
theorem core_cave {N n F : Nat} {g : Nat → Nat → Nat} {size st stations : Int32} {rows page : Nat → Int32} (hF : F = 1000) (h : CV N n g size st rows stations page) {next depth doings : Int32} {C1 C2 : CT} {book kept isKept : Nat → Int32} {filled : Int32} (hU : RelU N next depth C1 doings book) (hK : RelK N filled C2 kept isKept) {len ts : Int32} {letters text : Nat → Int32} (hT : RelT len letters ts text) (th place rs : Int32) (readPage : Nat → Int32) : ∃ (r filled' size' st' : Int32) (rows' : Nat → Int32) (depth' place' stations' rs' doings' : Int32) (readPage' page' isKept' : Nat → Int32) (N' n' : Nat) (g' : Nat → Nat → Nat), f_X5_cave F filled len letters size st rows depth = some (r, filled', size', st', rows', depth') ∧ f_X6_cave F th ts place stations rs doings text readPage page isKept = some (r, 0, place', stations', rs', doings', readPage', page', isKept') ∧ CV N' n' g' size' st' rows' stations' page' ∧ RelU N' next depth' C1 doings' book ∧ RelK N' filled' C2 kept isKept' := by
  obtain ⟨q, c, rfl, rfl, t1, t2⟩ := rt_tx hT
  unfold f_X5_cave f_X6_cave
  rcases e_text hF t1 t2 place rs readPage with ⟨t, pl', rs', pg, a0, a1, a2⟩ | ⟨k, M, pg, a1, a2, a3, a4, a5, a6, a7, a8⟩
  · rw [a1, a2, bnd1_some', bnd4S, if_neg (nI_9 (by omega)), if_neg (nI_9 (by omega))]
    exact ⟨_, _, _, _, _, _, _, _, _, _, _, _, _, N, n, g, rfl, rfl, h, hU, hK⟩
  · have hq := t1.1
    obtain ⟨d, x, u1, u2, u3, u4, u5, u6⟩ := hU
    obtain ⟨rows', b1, b2⟩ := dsc_in (F := F) t1 a5 a6 a3 a7 k 0 F rows (by omega) (by omega) (fun l hl => absurd hl (Nat.not_lt_zero l))
    obtain ⟨P', c1, c2⟩ := cp_in (F := F) (q := nI q) (T := text) 0 (nI q) (nI M) (nI M) doings pg isKept 50 0 F page (by omega) (by omega) (fun j hj => absurd hj (Nat.not_lt_zero j))
    have hwf := gT_wf a5 a6 k a7
    have hk := hwf.1
    have v1 : f_X4_value (1 : Int32) (nI q) letters = some (nI M) := by
      by_cases q1 : 1 < q
      · rw [show f_X4_value (1 : Int32) (nI q) letters = some (vW (vN (c 1))) from e_value (i := 1) t1 q1, a4, vW_n (by omega)]
      · omega
    have b0 : f_X4_describe F (nI q) letters size st rows = some (nI k, nI M, rows') := by
      unfold f_X4_describe
      rw [v1]
      exact b1
    rw [a1, a2, bnd1_some', bnd4S, if_pos rfl, if_pos rfl, b0]
    have hp' : RPg k (gT c k) P' := ⟨by rw [c2 0 (by omega)]; exact a8.1, by rw [c2 1 (by omega)]; exact a8.2.1, fun l hl j hj => by rw [c2 _ (by omega)]; exact a8.2.2 l hl j hj⟩
    have e0 : P' 0 = nI k := hp'.1
    rw [e0] at c1
    refine ⟨nI k, 0, nI k, nI M, rows', 0, _, nI M, _, 0, _, P', _, M, k, gT c k, rfl, c1, ⟨hwf, ⟨rfl, rfl, b2⟩, hp', rfl⟩, ⟨0, x, by omega, u2, u3, rfl, rfl, fun i hi => absurd hi (Nat.not_lt_zero i)⟩, ⟨0, by omega, rfl, fun i hi => ⟨?_, fun z => by rw [Nat.zero_testBit] at z; cases z⟩⟩⟩
    rw [Nat.zero_testBit, if_neg (by decide)]
    have : i = 0 ∨ i = 1 := by omega
    rcases this with rfl | rfl
    · rw [pk_un (by omega), pk_us]
    · rw [pk_us]
