/-! ===== observations ===== -/
theorem v_in (y : Int32) (M : Nat) (hM : M < 100) : ((0 : Int64) ≤ y.toInt64 ∧ y.toInt64 ≤ (Int64.ofNat M)) ↔ (0 ≤ y.toInt ∧ y.toInt ≤ M) := by
  rw [fa_le64, fa_le64, Int32.toInt_toInt64, lit_0L, show (Int64.ofNat M).toInt = M from lN_toInt (by omega)]
theorem core_see {N : Nat} (hN : N ≤ 6) (y1 y2 y3 y4 th size seen : Int32) (rows sS sO sV sW : Nat → Int32) (h : RelS size rows seen sS sO sV sW) : ∃ (r size' : Int32) (rows' : Nat → Int32) (seen' : Int32) (sS' sO' sV' sW' : Nat → Int32), f_X5_see y1 y2 y3 y4 (nI N) size rows = some (r, size', rows') ∧ f_X6_see y1 y2 y3 y4 th (nI N) seen sS sO sV sW = some (r, 0, seen', sS', sO', sV', sW') ∧ RelS size' rows' seen' sS' sO' sV' sW' := by
  have h' := h
  obtain ⟨q, hq, rfl, rfl, hc⟩ := h
  unfold f_X5_see f_X6_see
  have e10 := v_in y3 10 (by omega)
  have e1 := v_in y4 1 (by omega)
  rw [show Int64.ofNat 10 = (10 : Int64) from rfl] at e10
  rw [show Int64.ofNat 1 = (1 : Int64) from rfl] at e1
  rw [e_hasSt y1 (by omega), e_hasSt y2 (by omega), e_noSt y1 (by omega), e_noSt y2 (by omega), e_in, e_in]
  simp only [bnd1_some', e10, e1]
  have same : ∀ r : Int32, ∀ a b, a = some (r, nI q, rows) → b = some (r, (0 : Int32), nI q, sS, sO, sV, sW) → ∃ (r size' : Int32) (rows' : Nat → Int32) (seen' : Int32) (sS' sO' sV' sW' : Nat → Int32), a = some (r, size', rows') ∧ b = some (r, 0, seen', sS', sO', sV', sW') ∧ RelS size' rows' seen' sS' sO' sV' sW' := fun r a b ha hb => ⟨r, nI q, rows, nI q, sS, sO, sV, sW, ha, hb, h'⟩
  rcases st_cases y1 (N := N) (by omega) with h1 | ⟨a, ha, rfl⟩
  · exact same (-1) _ _ (by simp [h1]) (by simp [h1])
  rw [if_pos (in_a ha (by omega)), if_pos (in_a ha (by omega))]
  rcases st_cases y2 (N := N) (by omega) with h2 | ⟨b, hb, rfl⟩
  · exact same (-1) _ _ (by simp [h2]) (by simp [h2])
  rw [if_pos (in_a hb (by omega)), if_pos (in_a hb (by omega))]
  have one0 : ¬ (1 : Int32) = 0 := by decide
  have k10 : (10 : Int32).toInt = 10 := by decide
  have k1 : (1 : Int32).toInt = 1 := by decide
  simp only [if_neg one0, if_pos, fa_lt, fa_le, lit_0, k10, k1]
  rcases tri y3 (M := 10) (by decide) with h3 | h3 | ⟨v, hv, rfl⟩
  · exact same (-2) _ _ (by rw [if_pos h3]) (by rw [if_neg (show ¬ (0 ≤ y3.toInt ∧ y3.toInt ≤ (10 : Nat)) by omega)]; rfl)
  · exact same (-2) _ _ (by rw [if_neg (by omega), if_pos (by omega)]) (by rw [if_neg (show ¬ (0 ≤ y3.toInt ∧ y3.toInt ≤ (10 : Nat)) by omega)]; rfl)
  rw [nI_toInt (show v < 2 ^ 31 by omega), if_neg (show ¬ (v : Int) < 0 by omega), if_neg (show ¬ (10 : Int) < (v : Int) by omega), if_pos (show 0 ≤ (v : Int) ∧ (v : Int) ≤ (10 : Nat) by omega)]
  rcases tri y4 (M := 1) (by decide) with h4 | h4 | ⟨w, hw, rfl⟩
  · exact same (-2) _ _ (by rw [if_pos h4]) (by rw [if_neg (show ¬ (0 ≤ y4.toInt ∧ y4.toInt ≤ (1 : Nat)) by omega)]; rfl)
  · exact same (-2) _ _ (by rw [if_neg (by omega), if_neg (by omega)]) (by rw [if_neg (show ¬ (0 ≤ y4.toInt ∧ y4.toInt ≤ (1 : Nat)) by omega)]; rfl)
  rw [nI_toInt (show w < 2 ^ 31 by omega), if_neg (show ¬ (w : Int) < 0 by omega), if_pos (show (w : Int) ≤ 1 by omega), if_pos (show 0 ≤ (w : Int) ∧ (w : Int) ≤ (1 : Nat) by omega)]
  unfold f_X2_add
  simp only [if_neg one0]
  by_cases hf : q = 6
  · subst hf
    exact same (-4) _ _ rfl rfl
  · have hq6 : q < 6 := by omega
    refine ⟨nI (q + 1), nI (q + 1), upd (upd (upd (upd rows (4 * q) (nI a)) (4 * q + 1) (nI b)) (4 * q + 2) (nI v)) (4 * q + 3) (nI w), nI (q + 1), upd sS q (nI a), upd sO q (nI b), upd sV q (nI v), upd sW q (nI w), ?_, ?_, q + 1, by omega, rfl, rfl, ?_⟩
    · have e4 : nI q * nI 4 = nI (4 * q) := by rw [pk_mul, Nat.mul_comm]
      simp (disch := omega) only [nmd, e4, fa_lit, nI_add, nI_ltI, nI_leI, chk_nI, cl_nI, if_pos, if_neg]
      rfl
    · have e6 : ¬ nI q = (6 : Int32) := fun h => hf ((nI_eq (b := 6) (by omega) (by omega)).mp h)
      rw [if_neg e6]
      simp (disch := omega) only [nmd, chk_nI, cl_nI, nI_1]
    · intro i hi
      by_cases e : i = q
      · subst e
        refine ⟨a, b, v, w, by omega, by omega, hv, hw, ?_, ?_, ?_, ?_, pk_us, pk_us, pk_us, pk_us⟩
        · rw [pk_un (by omega), pk_un (by omega), pk_un (by omega), pk_us]
        · rw [pk_un (by omega), pk_un (by omega), pk_us]
        · rw [pk_un (by omega), pk_us]
        · rw [pk_us]
      · obtain ⟨a', b', v', w', z1, z2, z3, z4, z5, z6, z7, z8, z9, za, zb, zc⟩ := hc i (by omega)
        refine ⟨a', b', v', w', z1, z2, z3, z4, ?_, ?_, ?_, ?_, by rw [pk_un e]; exact z9, by rw [pk_un e]; exact za, by rw [pk_un e]; exact zb, by rw [pk_un e]; exact zc⟩
        · rw [pk_un (by omega), pk_un (by omega), pk_un (by omega), pk_un (by omega)]; exact z5
        · rw [pk_un (by omega), pk_un (by omega), pk_un (by omega), pk_un (by omega)]; exact z6
        · rw [pk_un (by omega), pk_un (by omega), pk_un (by omega), pk_un (by omega)]; exact z7
        · rw [pk_un (by omega), pk_un (by omega), pk_un (by omega), pk_un (by omega)]; exact z8
/-- an observation of two stations that there are holds if just the legs of S are open -/
def obs (g : Nat → Nat → Nat) (n N S a b v w : Nat) : Bool := if a < N ∧ b < N then (decide (gw g n S a b = v) == decide (w = 1)) else true
theorem gwk_le (g : Nat → Nat → Nat) (n S a b : Nat) : ∀ k, gwk g n S a b k ≤ k
  | 0 => Nat.le_refl 0
  | k + 1 => by
    have h := gwk_le g n S a b k
    unfold gwk
    split
    · exact Nat.le_refl _
    · exact Nat.le_succ_of_le h
theorem gw_le (g : Nat → Nat → Nat) (n S a b : Nat) : gw g n S a b ≤ 10 := by
  unfold gw
  have := gwk_le g n S a b 9
  split <;> omega
/-- all of q observations -/
def obsA (g : Nat → Nat → Nat) (n N S : Nat) (A B V W' : Nat → Nat) : Nat → Nat → Bool
  | 0, _ => true
  | k + 1, i => obs g n N S (A i) (B i) (V i) (W' i) && obsA g n N S A B V W' k (i + 1)
theorem st_nI {a N : Nat} (ha : a < 6) (hN : N ≤ 8) : (0 ≤ (nI a).toInt ∧ (nI a).toInt < N) ↔ a < N := by rw [nI_toInt (by omega)]; omega
theorem fit_in {n N F : Nat} {g : Nat → Nat → Nat} {S S' q : Nat} {rows srows : Nat → Int32} {A B V W' : Nat → Nat} (hF : 9 < F) (hN : N ≤ 6) (hg : WG n g) (hr : RR n g rows) (hT : ∀ w, S &&& opn g w n = wid g S' w n) (hq : q ≤ 6) (hA : ∀ i, i < q → A i < 6 ∧ B i < 6 ∧ V i ≤ 10 ∧ W' i ≤ 1) (hs : ∀ i, i < q → srows (4 * i) = nI (A i) ∧ srows (4 * i + 1) = nI (B i) ∧ srows (4 * i + 2) = nI (V i) ∧ srows (4 * i + 3) = nI (W' i)) : ∀ (k i fuel : Nat), k + i = q → k < fuel → f_X2_fit_L2 F (nI q) srows (nI n) (nI N) rows fuel (nI S) (nI (4 * i)) = some (if obsA g n N S' A B V W' k i = true then 1 else 0)
  | 0, i, fuel + 1, hk, hf => by
    have e : i = q := by omega
    subst e
    show f_X2_fit_B2 F (nI i) srows (nI n) (nI N) rows _ _ _ = _
    unfold f_X2_fit_B2
    have e4 : nI i * (4 : Int32) = nI (4 * i) := by rw [fa_lit 4, pk_mul, Nat.mul_comm]
    rw [e4, if_pos (nI_le (Nat.le_refl _) (by omega))]
    rfl
  | k + 1, i, fuel + 1, hk, hf => by
    have hi : i < q := by omega
    obtain ⟨ha, hb, hv, hw⟩ := hA i hi
    obtain ⟨s0, s1, s2, s3⟩ := hs i hi
    have ih := fit_in (F := F) hF hN hg hr hT hq hA hs k (i + 1) fuel (by omega) (by omega)
    show f_X2_fit_B2 F (nI q) srows (nI n) (nI N) rows (f_X2_fit_L2 F (nI q) srows (nI n) (nI N) rows fuel) _ _ = _
    unfold f_X2_fit_B2 f_X2_fit_J84 f_X2_fit_J105 f_X2_fit_J110
    have e4 : nI q * (4 : Int32) = nI (4 * q) := by rw [fa_lit 4, pk_mul, Nat.mul_comm]
    have a4 : nI (4 * i) + (4 : Int32) = nI (4 * (i + 1)) := by rw [fa_lit 4, nI_add]; rfl
    have a1 : nI (4 * i) + (1 : Int32) = nI (4 * i + 1) := nI_1 _
    have a2 : nI (4 * i) + (2 : Int32) = nI (4 * i + 2) := by rw [fa_lit 2, nI_add]
    have a3 : nI (4 * i) + (3 : Int32) = nI (4 * i + 3) := by rw [fa_lit 3, nI_add]
    rw [e4, a4, a1, a2, a3, if_neg (nI_ge (by omega) (by omega)), if_neg (show ¬ (24 : Int32) < nI (4 * (i + 1)) from fun h => absurd ((nI_ltI (a := 24) (by omega) (by omega)).mp h) (by omega))]
    simp (disch := omega) only [chk_nI, cl_nI, nmd, s0, s1, s2, s3]
    rw [e_hasSt _ (by omega), e_hasSt _ (by omega)]
    simp only [bnd1_some', st_nI ha (show N ≤ 8 by omega), st_nI hb (show N ≤ 8 by omega)]
    show _ = some (if (obs g n N S' (A i) (B i) (V i) (W' i) && obsA g n N S' A B V W' k (i + 1)) = true then 1 else 0)
    unfold obs
    by_cases c1 : A i < N
    · by_cases c2 : B i < N
      · rw [if_pos c1, if_pos c2, if_pos (show A i < N ∧ B i < N from ⟨c1, c2⟩), e_gw hF hg hr hT ha hb]
        simp only [bnd1_some']
        have hgl := gw_le g n S' (A i) (B i)
        have q1 : (nI (gw g n S' (A i) (B i)) = nI (V i)) ↔ gw g n S' (A i) (B i) = V i := nI_eq (by omega) (by omega)
        have q2 : (nI (W' i) = (1 : Int32)) ↔ W' i = 1 := nI_eq (b := 1) (by omega) (by omega)
        simp only [q1, q2]
        by_cases d1 : gw g n S' (A i) (B i) = V i <;> by_cases d2 : W' i = 1 <;> simp [d1, d2] <;> first | exact ih | (simp at ih; exact ih)
      · rw [if_pos c1, if_neg c2, if_neg (show ¬ (A i < N ∧ B i < N) from fun h => c2 h.2)]
        simp
        exact ih
    · rw [if_neg c1, if_neg (show ¬ (A i < N ∧ B i < N) from fun h => c1 h.1)]
      simp
      exact ih
theorem e_isSo {n N F : Nat} {g : Nat → Nat → Nat} {q : Nat} {page sS sO sV sW : Nat → Int32} {A B V W' : Nat → Nat} (hF : 9 < F) (hN : N ≤ 6) (hg : WG n g) (hp : PP n g page) (hq : q ≤ 6) (hA : ∀ i, i < q → A i < 6 ∧ B i < 6 ∧ V i ≤ 10 ∧ W' i ≤ 1) (hs : ∀ i, i < q → sS i = nI (A i) ∧ sO i = nI (B i) ∧ sV i = nI (V i) ∧ sW i = nI (W' i)) {l i : Nat} (hl : l < n) (hi : i < q) : f_X6_isSo F (nI l) (nI i) (nI N) page sS sO sV sW = some (if obs g n N (ldiff (opn g 0 n) (2 ^ l)) (A i) (B i) (V i) (W' i) = true then 1 else 0) := by
  obtain ⟨ha, hb, hv, hw⟩ := hA i hi
  obtain ⟨s0, s1, s2, s3⟩ := hs i hi
  have hn := hg.1
  have hp2 : 2 ^ n ≤ 256 := p2_256 hn
  have hO := opn_lt g 0 n
  unfold f_X6_isSo f_X6_isSo_J77 f_X6_isSo_J92
  simp (disch := omega) only [chk_nI, cl_nI, s0, s1, s2, s3]
  rw [e_noSt _ (by omega), e_noSt _ (by omega), e_openOnes hg hp]
  simp only [bnd1_some', st_nI ha (show N ≤ 8 by omega), st_nI hb (show N ≤ 8 by omega)]
  rw [shl_nI (by omega), not_nI (by omega), e_wb hF hg hp (ldiff_lt hO) ha hb]
  simp only [bnd1_some']
  unfold obs
  by_cases c1 : A i < N
  · by_cases c2 : B i < N
    · have hgl := gw_le g n (ldiff (opn g 0 n) (2 ^ l)) (A i) (B i)
      have q1 : (nI (gw g n (ldiff (opn g 0 n) (2 ^ l)) (A i) (B i)) = nI (V i)) ↔ gw g n (ldiff (opn g 0 n) (2 ^ l)) (A i) (B i) = V i := nI_eq (by omega) (by omega)
      have q2 : (nI (W' i) = (1 : Int32)) ↔ W' i = 1 := nI_eq (b := 1) (by omega) (by omega)
      simp only [q1, q2]
      by_cases d1 : gw g n (ldiff (opn g 0 n) (2 ^ l)) (A i) (B i) = V i <;> by_cases d2 : W' i = 1 <;> simp [c1, c2, d1, d2]
    · simp [c1, c2]
  · simp [c1]
theorem which_k {n N F : Nat} {g : Nat → Nat → Nat} {q : Nat} {page sS sO sV sW : Nat → Int32} {A B V W' : Nat → Nat} {kb : Int32 → Int32 → Int32 → Option (Int32 × Int32)} (th : Int32) (hF : 9 < F) (hN : N ≤ 6) (hg : WG n g) (hp : PP n g page) (hq : q ≤ 6) (hA : ∀ i, i < q → A i < 6 ∧ B i < 6 ∧ V i ≤ 10 ∧ W' i ≤ 1) (hs : ∀ i, i < q → sS i = nI (A i) ∧ sO i = nI (B i) ∧ sV i = nI (V i) ∧ sW i = nI (W' i)) {l m : Nat} (hl : l < n) (hm : m < 256) : ∀ (k i fuel : Nat) (may : Bool), k + i = q → k < fuel → f_X6_which_L34 F (nI N) (nI q) page sS sO sV sW kb fuel th (nI m) (nI l) (if may = true then 1 else 0) (nI i) = (if (may && obsA g n N (ldiff (opn g 0 n) (2 ^ l)) A B V W' k i) = true then kb th (nI (m ||| 2 ^ l)) (nI (l + 1)) else kb th (nI m) (nI (l + 1)))
  | 0, i, fuel + 1, may, hk, hf => by
    have e : i = q := by omega
    subst e
    have hn := hg.1
    show f_X6_which_B34 F (nI N) (nI i) page sS sO sV sW kb _ _ _ _ _ _ = _
    unfold f_X6_which_B34 f_X6_which_J81
    have or0 : nI m ||| (0 : Int32) = nI m := by rw [fa_lit 0, fa_or, Nat.or_zero]
    rw [if_pos (nI_le (Nat.le_refl _) (by omega)), shl_nI (by omega)]
    simp only [nmd, i01, or0, fa_or, nI_1]
    show _ = (if (may && true) = true then _ else _)
    cases may <;> simp
  | k + 1, i, fuel + 1, may, hk, hf => by
    have hi : i < q := by omega
    have ih := fun may' => which_k (F := F) (kb := kb) th hF hN hg hp hq hA hs hl hm k (i + 1) fuel may' (by omega) (by omega)
    show f_X6_which_B34 F (nI N) (nI q) page sS sO sV sW kb (f_X6_which_L34 F (nI N) (nI q) page sS sO sV sW kb fuel) _ _ _ _ _ = _
    unfold f_X6_which_B34 f_X6_which_J61 f_X6_which_J62
    rw [if_neg (nI_ge hi (by omega)), e_isSo hF hN hg hp hq hA hs hl hi]
    simp only [bnd1_some', nmd, i01, nI_1]
    show _ = (if (may && (obs g n N (ldiff (opn g 0 n) (2 ^ l)) (A i) (B i) (V i) (W' i) && obsA g n N (ldiff (opn g 0 n) (2 ^ l)) A B V W' k (i + 1))) = true then _ else _)
    have t := ih true
    have f := ih false
    simp at t f
    cases may with
    | false => simp; exact f
    | true =>
      cases ho : obs g n N (ldiff (opn g 0 n) (2 ^ l)) (A i) (B i) (V i) (W' i) with
      | false => simp; exact f
      | true => simp; exact t
