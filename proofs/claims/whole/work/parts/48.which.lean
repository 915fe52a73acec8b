theorem e_fit {n N F : Nat} {g : Nat → Nat → Nat} {S q : Nat} {rows srows : Nat → Int32} {A B V W' : Nat → Nat} (hF : 9 < F) (hN : N ≤ 6) (hg : WG n g) (hr : RR n g rows) (hS : ∀ l, S.testBit l = true → l < n ∧ g l 6 = 0) (hq : q ≤ 6) (hA : ∀ i, i < q → A i < 6 ∧ B i < 6 ∧ V i ≤ 10 ∧ W' i ≤ 1) (hs : ∀ i, i < q → srows (4 * i) = nI (A i) ∧ srows (4 * i + 1) = nI (B i) ∧ srows (4 * i + 2) = nI (V i) ∧ srows (4 * i + 3) = nI (W' i)) : f_X2_fit F (nI S) (nI q) srows (nI n) (nI N) rows = some (if obsA g n N S A B V W' q 0 = true then 1 else 0) :=
  fit_in hF hN hg hr (fun w => and_opn hS) hq hA hs q 0 F (by omega) (by omega)
def whP (g : Nat → Nat → Nat) (n N q : Nat) (A B V W' : Nat → Nat) : Nat → Bool := fun l => (opn g 0 n).testBit l && obsA g n N (ldiff (opn g 0 n) (2 ^ l)) A B V W' q 0
theorem which_5 {n N F : Nat} {g : Nat → Nat → Nat} {q : Nat} {rows srows : Nat → Int32} {A B V W' : Nat → Nat} (hF : 9 < F) (hN : N ≤ 6) (hg : WG n g) (hr : RR n g rows) (hq : q ≤ 6) (hA : ∀ i, i < q → A i < 6 ∧ B i < 6 ∧ V i ≤ 10 ∧ W' i ≤ 1) (hs : ∀ i, i < q → srows (4 * i) = nI (A i) ∧ srows (4 * i + 1) = nI (B i) ∧ srows (4 * i + 2) = nI (V i) ∧ srows (4 * i + 3) = nI (W' i)) : ∀ (k l fuel : Nat), k + l = n → k < fuel → f_X5_which_L13 F (nI n) (nI N) rows (nI q) srows fuel (nI (opn g 0 n)) (nI (msk (whP g n N q A B V W') l)) (nI l) = some (nI (msk (whP g n N q A B V W') n))
  | 0, l, fuel + 1, hk, hf => by
    have e : l = n := by omega
    subst e
    show f_X5_which_B13 F (nI l) (nI N) rows (nI q) srows _ _ _ _ = _
    unfold f_X5_which_B13
    rw [if_pos (nI_le (Nat.le_refl _) (by have := hg.1; omega))]
  | k + 1, l, fuel + 1, hk, hf => by
    have hn := hg.1
    have hl : l < n := by omega
    have hp2 : 2 ^ n ≤ 256 := p2_256 hn
    have hO := opn_lt g 0 n
    have ih := which_5 (F := F) hF hN hg hr hq hA hs k (l + 1) fuel (by omega) (by omega)
    show f_X5_which_B13 F (nI n) (nI N) rows (nI q) srows (f_X5_which_L13 F (nI n) (nI N) rows (nI q) srows fuel) _ _ _ = _
    unfold f_X5_which_B13 f_X5_which_J59
    have hSo : ∀ i, (ldiff (opn g 0 n) (2 ^ l)).testBit i = true → i < n ∧ g i 6 = 0 := fun i hi => by
      rw [ldiff_bit, opn_bit] at hi
      simp at hi
      exact ⟨hi.1.1, hi.1.2⟩
    rw [if_neg (nI_ge hl (by omega)), e_holds (by omega) (by omega), shl_nI (by omega), not_nI (by omega), e_fit hF hN hg hr hSo hq hA hs]
    simp only [bnd1_some', nmd, i01, nI_1, fa_or]
    cases ho : (opn g 0 n).testBit l with
    | false =>
      simp
      have e3 : msk (whP g n N q A B V W') (l + 1) = msk (whP g n N q A B V W') l := msk_no (by unfold whP; rw [ho]; rfl)
      rw [← e3]; exact ih
    | true =>
      cases hb : obsA g n N (ldiff (opn g 0 n) (2 ^ l)) A B V W' q 0 with
      | false =>
        simp
        have e3 : msk (whP g n N q A B V W') (l + 1) = msk (whP g n N q A B V W') l := msk_no (by unfold whP; rw [hb]; simp)
        rw [← e3]; exact ih
      | true =>
        simp
        have e3 : msk (whP g n N q A B V W') l ||| 2 ^ l = msk (whP g n N q A B V W') (l + 1) := msk_or (by unfold whP; rw [ho, hb]; rfl)
        rw [e3]; exact ih
theorem which_6 {n N F : Nat} {g : Nat → Nat → Nat} {q : Nat} {page sS sO sV sW : Nat → Int32} {A B V W' : Nat → Nat} (th : Int32) (hF : 9 < F) (hN : N ≤ 6) (hg : WG n g) (hp : PP n g page) (hq : q ≤ 6) (hA : ∀ i, i < q → A i < 6 ∧ B i < 6 ∧ V i ≤ 10 ∧ W' i ≤ 1) (hs : ∀ i, i < q → sS i = nI (A i) ∧ sO i = nI (B i) ∧ sV i = nI (V i) ∧ sW i = nI (W' i)) : ∀ (k l fuel : Nat), k + l = n → k < fuel → f_X6_which_L9 F (nI N) (nI q) page sS sO sV sW fuel th (nI (msk (whP g n N q A B V W') l)) (nI l) = some (nI (msk (whP g n N q A B V W') n), th)
  | 0, l, fuel + 1, hk, hf => by
    have e : l = n := by omega
    subst e
    show f_X6_which_B9 F (nI N) (nI q) page sS sO sV sW _ _ _ _ = _
    unfold f_X6_which_B9
    rw [chk_0 (by omega) (by omega), show Int32.toNatClampNeg (0 : Int32) = 0 from rfl, hp.1, if_pos (nI_le (Nat.le_refl _) (by have := hg.1; omega))]
  | k + 1, l, fuel + 1, hk, hf => by
    have hn := hg.1
    have hl : l < n := by omega
    have hp2 : 2 ^ n ≤ 256 := p2_256 hn
    have hO := opn_lt g 0 n
    have hml := msk_lt (whP g n N q A B V W') l
    have hpl : 2 ^ l ≤ 256 := p2_256 (by omega)
    have ih := which_6 (F := F) th hF hN hg hp hq hA hs k (l + 1) fuel (by omega) (by omega)
    show f_X6_which_B9 F (nI N) (nI q) page sS sO sV sW (f_X6_which_L9 F (nI N) (nI q) page sS sO sV sW fuel) _ _ _ = _
    unfold f_X6_which_B9
    rw [chk_0 (by omega) (by omega), show Int32.toNatClampNeg (0 : Int32) = 0 from rfl, hp.1, if_neg (nI_ge hl (by omega)), e_openOnes hg hp]
    simp only [bnd1_some']
    rw [e_has6 (by omega) (by omega)]
    simp only [bnd1_some']
    have hk0 := which_k (F := F) (kb := f_X6_which_L9 F (nI N) (nI q) page sS sO sV sW fuel) th hF hN hg hp hq hA hs hl (show msk (whP g n N q A B V W') l < 256 by omega) q 0 F ((opn g 0 n).testBit l) (by omega) (by omega)
    rw [show nI 0 = (0 : Int32) from rfl] at hk0
    rw [hk0]
    cases hb : whP g n N q A B V W' l with
    | false =>
      have hb' : ((opn g 0 n).testBit l && obsA g n N (ldiff (opn g 0 n) (2 ^ l)) A B V W' q 0) = false := hb
      rw [hb', if_neg (by decide), ← msk_no hb]
      exact ih
    | true =>
      have hb' : ((opn g 0 n).testBit l && obsA g n N (ldiff (opn g 0 n) (2 ^ l)) A B V W' q 0) = true := hb
      rw [hb', if_pos rfl, msk_or hb]
      exact ih
theorem core_which {N n F : Nat} {g : Nat → Nat → Nat} {size st stations : Int32} {rows page : Nat → Int32} (hF : 9 < F) (h : CV N n g size st rows stations page) (th sz seen : Int32) (srows sS sO sV sW : Nat → Int32) (h2 : RelS sz srows seen sS sO sV sW) : ∃ r, f_X5_which F size st rows sz srows = some r ∧ f_X6_which F th stations seen page sS sO sV sW = some (r, 0) := by
  obtain ⟨hw, ⟨rfl, rfl, hr⟩, hp, rfl⟩ := h
  obtain ⟨q, hq, rfl, rfl, hc⟩ := h2
  have hN6 : N ≤ 6 := hw.2.2.1
  have hn8 := hw.1
  obtain ⟨f, hf⟩ := Classical.axiomOfChoice (r := fun (i : Nat) (x : Nat × Nat × Nat × Nat) => i < q → (x.1 < 6 ∧ x.2.1 < 6 ∧ x.2.2.1 ≤ 10 ∧ x.2.2.2 ≤ 1) ∧ (srows (4 * i) = nI x.1 ∧ srows (4 * i + 1) = nI x.2.1 ∧ srows (4 * i + 2) = nI x.2.2.1 ∧ srows (4 * i + 3) = nI x.2.2.2) ∧ (sS i = nI x.1 ∧ sO i = nI x.2.1 ∧ sV i = nI x.2.2.1 ∧ sW i = nI x.2.2.2)) (fun i => by
    by_cases hi : i < q
    · obtain ⟨a, b, v, w, z1, z2, z3, z4, z5, z6, z7, z8, z9, za, zb, zc⟩ := hc i hi
      exact ⟨(a, b, v, w), fun _ => ⟨⟨z1, z2, z3, z4⟩, ⟨z5, z6, z7, z8⟩, z9, za, zb, zc⟩⟩
    · exact ⟨(0, 0, 0, 0), fun h => absurd h hi⟩)
  have e3 := e_open (w := 1) (show 8 < F by omega) hw.wg hr (by omega)
  rw [show nI 1 = (1 : Int32) from rfl, opn01 hw.wg] at e3
  refine ⟨nI (msk (whP g n N q (fun i => (f i).1) (fun i => (f i).2.1) (fun i => (f i).2.2.1) (fun i => (f i).2.2.2)) n), ?_, ?_⟩
  · unfold f_X5_which
    rw [e3]
    exact which_5 hF hN6 hw.wg hr hq (fun i hi => (hf i hi).1) (fun i hi => (hf i hi).2.1) n 0 F (by omega) (by omega)
  · unfold f_X6_which
    exact which_6 0 hF hN6 hw.wg hp hq (fun i hi => (hf i hi).1) (fun i hi => (hf i hi).2.2) n 0 F (by omega) (by omega)
