/-! ===== positive forms ===== -/
theorem sg_trunc {f : Nat → Int} {k : Nat} : ∀ {n : Nat}, k ≤ n → (∀ i, k ≤ i → i < n → f i = 0) → sg f n = sg f k
  | 0, h, _ => by
    have : k = 0 := by omega
    rw [this]
  | n + 1, h, e => by
    by_cases c : k = n + 1
    · rw [c]
    · show sg f n + f n = sg f k
      rw [sg_trunc (k := k) (by omega) (fun i h1 h2 => e i h1 (by omega)), e n (by omega) (by omega), Int.add_zero]
def qf (M : Nat → Nat → Int) (m : Nat) (y : Nat → Int) : Int := sg (fun i => y i * sg (fun j => M i j * y j) m) m
def yp (p : Nat) (M : Nat → Nat → Int) (i : Nat) : Int := if i < p then - cX p M (Ap M p) i else if i = p then dt p M else 0
theorem yp_row {p m : Nat} {M : Nat → Nat → Int} (hp : p < m) (r : Nat) : sg (fun j => M r j * yp p M j) m = cM p M (Ap M p) r := by
  rw [sg_trunc (k := p + 1) (by omega) (fun i h1 h2 => by
    have : yp p M i = 0 := by unfold yp; rw [if_neg (by omega), if_neg (by omega)]
    show M r i * yp p M i = 0
    rw [this, Int.mul_zero])]
  show sg (fun j => M r j * yp p M j) p + M r p * yp p M p = _
  have e1 : yp p M p = dt p M := by unfold yp; rw [if_neg (by omega), if_pos rfl]
  have e2 : sg (fun j => M r j * yp p M j) p = (-1) * sg (fun k => M r k * cX p M (Ap M p) k) p := sg_mul (fun i hi => by
    have : yp p M i = - cX p M (Ap M p) i := by unfold yp; rw [if_pos hi]
    show M r i * yp p M i = _
    rw [this]; grind)
  rw [e1, e2]
  unfold cM Ap
  grind
theorem cM_0 {p : Nat} {M : Nat → Nat → Int} (h : Cr p M) (b : Nat → Int) {r : Nat} (hr : r < p) : cM p M b r = 0 := by
  unfold cM
  rw [h b r hr, Int.sub_self]
theorem qf_yp {p m : Nat} {M : Nat → Nat → Int} (hp : p < m) (h : Cr p M) : qf M m (yp p M) = dt p M * dt (p + 1) M := by
  unfold qf
  rw [sg_one (k := p) hp (fun i hi hip => ?_)]
  · rw [yp_row hp, dt_next]
    unfold yp
    rw [if_neg (by omega), if_pos rfl]
  · rw [yp_row hp]
    by_cases c : i < p
    · rw [cM_0 h _ c, Int.mul_zero]
    · have : yp p M i = 0 := by unfold yp; rw [if_neg c, if_neg hip]
      rw [this, Int.zero_mul]
theorem pd_all {m : Nat} {M : Nat → Nat → Int} (hq : ∀ y : Nat → Int, (∃ i, i < m ∧ y i ≠ 0) → 0 < qf M m y) : ∀ p, p ≤ m → ∀ q, q ≤ p → 0 < dt q M
  | 0, _, q, hq0 => by
    have : q = 0 := by omega
    rw [this]; exact Int.one_pos
  | p + 1, hp, q, hqp => by
    have ih := pd_all hq p (by omega)
    by_cases c : q = p + 1
    · rw [c]
      have h0 := ih p (Nat.le_refl p)
      have hc : Cr p M := cr_all (fun q hq => by have := ih q hq; omega)
      have h1 := hq (yp p M) ⟨p, by omega, by unfold yp; rw [if_neg (by omega), if_pos rfl]; omega⟩
      rw [qf_yp (by omega) hc] at h1
      exact Int.pos_of_mul_pos_right h1 h0
    · exact ih q (by omega)
theorem hadam {m p : Nat} {M : Nat → Nat → Int} (sym : ∀ i j, i < m → j < m → M i j = M j i) (hq : ∀ y : Nat → Int, 0 ≤ qf M m y) (h : Cr p M) (h0 : 0 < dt p M) (hp : p < m) : dt (p + 1) M ≤ dt p M * M p p := by
  have e : 0 ≤ sg (fun i => (if i < p then cX p M (Ap M p) i else 0) * sg (fun j => M i j * (if j < p then cX p M (Ap M p) j else 0)) m) m := hq (fun i => if i < p then cX p M (Ap M p) i else 0)
  have e1 : ∀ i, sg (fun j => M i j * (if j < p then cX p M (Ap M p) j else 0)) m = sg (fun j => M i j * cX p M (Ap M p) j) p := fun i => by
    rw [sg_trunc (k := p) (by omega) (fun j h1 h2 => by rw [if_neg (by omega), Int.mul_zero])]
    exact sg_cong (fun j hj => by rw [if_pos hj])
  rw [sg_trunc (k := p) (by omega) (fun i h1 h2 => by rw [if_neg (by omega), Int.zero_mul]), sg_mul (x := dt p M) (g := fun k => M p k * cX p M (Ap M p) k) (fun i hi => by
    rw [e1, if_pos hi, h _ i hi, sym p i hp (by omega)]
    unfold Ap
    grind)] at e
  have e2 : 0 ≤ sg (fun k => M p k * cX p M (Ap M p) k) p := by
    rcases Int.lt_or_le (sg (fun k => M p k * cX p M (Ap M p) k) p) 0 with c | c
    · have := Int.mul_neg_of_pos_of_neg h0 c
      omega
    · exact c
  rw [dt_next]
  unfold cM
  have : Ap M p p = M p p := rfl
  rw [this]
  omega
/-! bounds -/
theorem sg_ab {f : Nat → Int} {B : Nat → Nat} : ∀ {n : Nat}, (∀ i, i < n → (f i).natAbs ≤ B i) → (sg f n).natAbs ≤ fb_sm B n
  | 0, _ => Nat.le_refl 0
  | n + 1, h => by
    have h1 := sg_ab (f := f) (B := B) (n := n) (fun i hi => h i (by omega))
    have h2 := h n (by omega)
    show (sg f n + f n).natAbs ≤ fb_sm B n + B n
    omega
def Bd : Nat → (Nat → Nat) → Nat
  | 0, _ => 1
  | p + 1, w => Bd p w * w p + fb_sm (fun k => w k * Bd p (fun c => if c = k then w p else w c)) p
theorem ab_mul {x y : Int} {a b : Nat} (h1 : x.natAbs ≤ a) (h2 : y.natAbs ≤ b) : (x * y).natAbs ≤ a * b := by
  rw [Int.natAbs_mul]; exact Nat.mul_le_mul h1 h2
theorem dt_bd : ∀ (p : Nat) {A : Nat → Nat → Int} {w : Nat → Nat}, (∀ r, r < p → ∀ c, c < p → (A r c).natAbs ≤ w c) → (dt p A).natAbs ≤ Bd p w
  | 0, _, _, _ => Nat.le_refl 1
  | p + 1, A, w, h => by
    show (dt p A * A p p - sg (fun k => A p k * dt p (rp A k (fun r => A r p))) p).natAbs ≤ Bd p w * w p + fb_sm (fun k => w k * Bd p (fun c => if c = k then w p else w c)) p
    have h1 := ab_mul (dt_bd p (A := A) (w := w) (fun r hr c hc => h r (by omega) c (by omega))) (h p (by omega) p (by omega))
    have h2 : (sg (fun k => A p k * dt p (rp A k (fun r => A r p))) p).natAbs ≤ fb_sm (fun k => w k * Bd p (fun c => if c = k then w p else w c)) p := sg_ab (fun k hk => ab_mul (h p (by omega) k (by omega)) (dt_bd p (fun r hr c hc => by
      by_cases e : c = k
      · rw [e, rp_s, if_pos rfl]; exact h r (by omega) p (by omega)
      · rw [rp_n _ _ _ e, if_neg e]; exact h r (by omega) c (by omega))))
    omega
/-! ===== the normal equations of some legs ===== -/
def eL (f t s : Nat) : Int := (if t = s then 1 else 0) - (if f = s then 1 else 0)
def Yx (y : Nat → Int) (s : Nat) : Int := if s = 0 then 0 else y (s - 1)
def dY (y : Nat → Int) (f t : Nat) : Int := Yx y t - Yx y f
theorem eL_1 (y : Nat → Int) {a : Nat} (ha : a < 6) : sg (fun i => (if a = i + 1 then 1 else 0) * y i) 5 = Yx y a := by
  unfold Yx
  by_cases c : a = 0
  · rw [if_pos c, sg_zero (fun i hi => by rw [if_neg (by omega), Int.zero_mul])]
  · rw [if_neg c, sg_one (k := a - 1) (by omega) (fun i hi hk => by rw [if_neg (by omega), Int.zero_mul]), if_pos (by omega), Int.one_mul]
theorem eL_sum (y : Nat → Int) {f t : Nat} (hf : f < 6) (ht : t < 6) : sg (fun i => eL f t (i + 1) * y i) 5 = dY y f t := by
  unfold dY
  rw [← eL_1 y hf, ← eL_1 y ht, sg_lin (x := 1) (y := -1) (g := fun i => (if t = i + 1 then 1 else 0) * y i) (h := fun i => (if f = i + 1 then 1 else 0) * y i) (fun i hi => ?_)]
  · omega
  · unfold eL; grind
def uS (g : Nat → Nat → Nat) (S K l : Nat) : Bool := S.testBit l && K.testBit (g l 4)
def el (g : Nat → Nat → Nat) (l i : Nat) : Int := eL (g l 4) (g l 5) (i + 1)
def mM (g : Nat → Nat → Nat) (n S K i j : Nat) : Int := sg (fun l => if uS g S K l = true then el g l i * el g l j else 0) n + (if i = j ∧ K.testBit (i + 1) = false then 1 else 0)
def rV (g : Nat → Nat → Nat) (n S K : Nat) (v : Nat → Int) (i : Nat) : Int := sg (fun l => if uS g S K l = true then v l * el g l i else 0) n
def dl (g : Nat → Nat → Nat) (y : Nat → Int) (l : Nat) : Int := dY y (g l 4) (g l 5)
theorem mM_sym (g : Nat → Nat → Nat) (n S K i j : Nat) : mM g n S K i j = mM g n S K j i := by
  unfold mM
  rw [sg_cong (f := fun l => if uS g S K l = true then el g l i * el g l j else 0) (g := fun l => if uS g S K l = true then el g l j * el g l i else 0) (fun l _ => by rw [Int.mul_comm])]
  by_cases c : i = j
  · rw [c]
  · rw [if_neg (fun h => c h.1), if_neg (fun h => c h.1.symm)]
theorem mM_mul {n : Nat} {g : Nat → Nat → Nat} (hw : LW n g) (S K : Nat) (y : Nat → Int) {i : Nat} (hi : i < 5) : sg (fun j => mM g n S K i j * y j) 5 = sg (fun l => if uS g S K l = true then el g l i * dl g y l else 0) n + (if K.testBit (i + 1) = false then y i else 0) := by
  rw [sg_add (g := fun j => sg (fun l => (if uS g S K l = true then el g l i * el g l j else 0) * y j) n) (h := fun j => (if i = j ∧ K.testBit (i + 1) = false then 1 else 0) * y j) (fun j _ => ?_)]
  · rw [sg_swap, sg_one (k := i) hi (fun j _ hj => by rw [if_neg (fun h => hj h.1.symm), Int.zero_mul])]
    congr 1
    · apply sg_cong
      intro l hl
      have hl2 := hw.2 l hl
      by_cases c : uS g S K l = true
      · rw [if_pos c, sg_mul (x := el g l i) (g := fun j => el g l j * y j) (fun j _ => by rw [if_pos c]; grind)]
        congr 1
        exact eL_sum y hl2.1 hl2.2
      · rw [if_neg c, sg_zero (fun j _ => by rw [if_neg c, Int.zero_mul])]
    · by_cases c : K.testBit (i + 1) = false
      · rw [if_pos ⟨rfl, c⟩, if_pos c, Int.one_mul]
      · rw [if_neg (fun h => c h.2), if_neg c, Int.zero_mul]
  · unfold mM
    rw [Int.add_mul, Int.mul_comm, ← sg_mul (x := y j) (f := fun l => (if uS g S K l = true then el g l i * el g l j else 0) * y j) (fun l _ => by rw [Int.mul_comm])]
theorem dualL {n : Nat} {g : Nat → Nat → Nat} (hw : LW n g) (S K : Nat) (z y : Nat → Int) : sg (fun i => y i * sg (fun l => if uS g S K l = true then z l * el g l i else 0) n) 5 = sg (fun l => if uS g S K l = true then z l * dl g y l else 0) n := by
  rw [sg_cong (g := fun i => sg (fun l => y i * (if uS g S K l = true then z l * el g l i else 0)) n) (fun i _ => (sg_mul (fun l _ => rfl)).symm), sg_swap]
  apply sg_cong
  intro l hl
  have hl2 := hw.2 l hl
  by_cases c : uS g S K l = true
  · rw [if_pos c, sg_mul (x := z l) (g := fun i => el g l i * y i) (fun i _ => by rw [if_pos c]; grind)]
    congr 1
    exact eL_sum y hl2.1 hl2.2
  · rw [if_neg c, sg_zero (fun i _ => by rw [if_neg c, Int.mul_zero])]
theorem qf_eq {n : Nat} {g : Nat → Nat → Nat} (hw : LW n g) (S K : Nat) (y : Nat → Int) : qf (mM g n S K) 5 y = sg (fun l => if uS g S K l = true then dl g y l * dl g y l else 0) n + sg (fun i => if K.testBit (i + 1) = false then y i * y i else 0) 5 := by
  unfold qf
  rw [← dualL hw S K (dl g y) y]
  apply sg_add
  intro i hi
  rw [mM_mul hw S K y hi, Int.mul_add]
  congr 1
  · congr 1
    apply sg_cong
    intro l _
    by_cases c : uS g S K l = true
    · rw [if_pos c, if_pos c, Int.mul_comm]
    · rw [if_neg c, if_neg c]
  · by_cases c : K.testBit (i + 1) = false
    · rw [if_pos c, if_pos c]
    · rw [if_neg c, if_neg c, Int.mul_zero]
theorem sq_nn (x : Int) : 0 ≤ x * x := by
  rcases Int.le_total 0 x with h | h
  · exact Int.mul_nonneg h h
  · exact Int.mul_nonneg_of_nonpos_of_nonpos h h
theorem sq_0 {x : Int} (h : x * x = 0) : x = 0 := by
  rcases Int.mul_eq_zero.mp h with h | h <;> exact h
theorem qf_nn {n : Nat} {g : Nat → Nat → Nat} (hw : LW n g) (S K : Nat) (y : Nat → Int) : 0 ≤ qf (mM g n S K) 5 y := by
  rw [qf_eq hw]
  have h1 : 0 ≤ sg (fun l => if uS g S K l = true then dl g y l * dl g y l else 0) n := sg_nn (fun l _ => by
    show 0 ≤ (if uS g S K l = true then dl g y l * dl g y l else 0)
    split
    · exact sq_nn _
    · exact Int.le_refl 0)
  have h2 : 0 ≤ sg (fun i => if K.testBit (i + 1) = false then y i * y i else 0) 5 := sg_nn (fun i _ => by
    show 0 ≤ (if K.testBit (i + 1) = false then y i * y i else 0)
    split
    · exact sq_nn _
    · exact Int.le_refl 0)
  omega
/-- what holds of the entrance and goes over legs holds of all that is reached -/
theorem stp_ind {n : Nat} {g : Nat → Nat → Nat} {S : Nat} {P : Nat → Prop} (hS : S < 2 ^ n) (hP : ∀ l, l < n → S.testBit l = true → (P (g l 4) ↔ P (g l 5))) {set l : Nat} (h : ∀ s, set.testBit s = true → P s) : ∀ s, (stp g S set l).testBit s = true → P s := by
  intro s hs
  unfold stp at hs
  by_cases c : S.testBit l = true ∧ pr g l &&& set ≠ 0
  · rw [if_pos c, Nat.testBit_or] at hs
    have hl := bit_lt hS c.1
    have hp := hP l hl c.1
    have hq : P (g l 4) ∧ P (g l 5) := by
      rcases (pr_and g l set).mp c.2 with d | d
      · exact ⟨h _ d, hp.mp (h _ d)⟩
      · exact ⟨hp.mpr (h _ d), h _ d⟩
    rcases (Bool.or_eq_true _ _).mp hs with d | d
    · exact h s d
    · unfold pr at d
      rw [Nat.testBit_or, Nat.testBit_two_pow, Nat.testBit_two_pow] at d
      rcases (Bool.or_eq_true _ _).mp d with e | e
      · rw [← of_decide_eq_true e]; exact hq.1
      · rw [← of_decide_eq_true e]; exact hq.2
  · rw [if_neg c] at hs; exact h s hs
theorem pasF_ind {n : Nat} {g : Nat → Nat → Nat} {S : Nat} {P : Nat → Prop} (hS : S < 2 ^ n) (hP : ∀ l, l < n → S.testBit l = true → (P (g l 4) ↔ P (g l 5))) : ∀ (k l set : Nat), (∀ s, set.testBit s = true → P s) → ∀ s, (pasF g S k l set).testBit s = true → P s
  | 0, _, _, h => h
  | k + 1, l, _, h => pasF_ind hS hP k (l + 1) _ (stp_ind hS hP h)
theorem rch_ind {n : Nat} {g : Nat → Nat → Nat} {S : Nat} {P : Nat → Prop} (hS : S < 2 ^ n) (hP : ∀ l, l < n → S.testBit l = true → (P (g l 4) ↔ P (g l 5))) : ∀ (k set : Nat), (∀ s, set.testBit s = true → P s) → ∀ s, (rch g S n k set).testBit s = true → P s
  | 0, _, h => h
  | k + 1, _, h => rch_ind hS hP k _ (pasF_ind hS hP n 0 _ h)
theorem con_ind {n : Nat} {g : Nat → Nat → Nat} {S : Nat} {P : Nat → Prop} (hS : S < 2 ^ n) (hP : ∀ l, l < n → S.testBit l = true → (P (g l 4) ↔ P (g l 5))) (h0 : P 0) : ∀ s, (con g n S).testBit s = true → P s := rch_ind hS hP 6 1 (fun s hs => by
  have : s = 0 := by
    by_cases c : s = 0
    · exact c
    · rw [Nat.testBit_lt_two_pow (show 1 < 2 ^ s from Nat.one_lt_two_pow c)] at hs; cases hs
  rw [this]; exact h0)
theorem mM_pd {n : Nat} {g : Nat → Nat → Nat} (hw : LW n g) {S : Nat} (hS : S < 2 ^ n) (y : Nat → Int) (hy : ∃ i, i < 5 ∧ y i ≠ 0) : 0 < qf (mM g n S (con g n S)) 5 y := by
  rcases Int.lt_or_eq_of_le (qf_nn hw S (con g n S) y) with h | h
  · exact h
  · exfalso
    obtain ⟨i, hi, hne⟩ := hy
    rw [qf_eq hw] at h
    have n1 : ∀ l, l < n → 0 ≤ (if uS g S (con g n S) l = true then dl g y l * dl g y l else 0) := fun l _ => by
      split
      · exact sq_nn _
      · exact Int.le_refl 0
    have n2 : ∀ i, i < 5 → 0 ≤ (if (con g n S).testBit (i + 1) = false then y i * y i else 0) := fun i _ => by
      split
      · exact sq_nn _
      · exact Int.le_refl 0
    have h1 := sg_nn n1
    have h2 := sg_nn n2
    have z1 := sg_nz n1 (by omega)
    have z2 := sg_nz n2 (by omega)
    have hc := con_ind (P := fun s => (con g n S).testBit s = true → Yx y s = 0) hS (fun l hl hb => by
      have ht := con_tie hw hS hl hb
      by_cases c : (con g n S).testBit (g l 4) = true
      · have e := z1 l hl
        have hu : uS g S (con g n S) l = true := by unfold uS; rw [hb, c]; rfl
        rw [if_pos hu] at e
        have e2 : Yx y (g l 5) - Yx y (g l 4) = 0 := sq_0 e
        have e3 : Yx y (g l 4) = Yx y (g l 5) := by omega
        rw [e3, ht]
      · exact ⟨fun _ h => absurd (ht ▸ h) c, fun _ h => absurd h c⟩) (fun _ => rfl)
    cases c : (con g n S).testBit (i + 1) with
    | true =>
      have := hc (i + 1) c c
      unfold Yx at this
      rw [if_neg (by omega)] at this
      exact hne this
    | false =>
      have e := z2 i hi
      rw [if_pos c] at e
      exact hne (sq_0 e)
