/-! ===== sums and determinants of whole numbers ===== -/
def sg (f : Nat → Int) : Nat → Int
  | 0 => 0
  | n + 1 => sg f n + f n
theorem sg_cong {f g : Nat → Int} : ∀ {n : Nat}, (∀ i, i < n → f i = g i) → sg f n = sg g n
  | 0, _ => rfl
  | n + 1, h => by
    show sg f n + f n = sg g n + g n
    rw [sg_cong (fun i hi => h i (by omega)), h n (by omega)]
theorem sg_lin {f g h : Nat → Int} {x y : Int} : ∀ {n : Nat}, (∀ i, i < n → f i = x * g i + y * h i) → sg f n = x * sg g n + y * sg h n
  | 0, _ => by show (0 : Int) = x * 0 + y * 0; omega
  | n + 1, e => by
    show sg f n + f n = x * (sg g n + g n) + y * (sg h n + h n)
    rw [sg_lin (fun i hi => e i (by omega)), e n (by omega), Int.mul_add, Int.mul_add]
    omega
theorem sg_mul {f g : Nat → Int} {x : Int} {n : Nat} (e : ∀ i, i < n → f i = x * g i) : sg f n = x * sg g n := by
  rw [sg_lin (f := f) (g := g) (h := g) (x := x) (y := 0) (fun i hi => by rw [e i hi, Int.zero_mul, Int.add_zero]), Int.zero_mul, Int.add_zero]
theorem sg_add {f g h : Nat → Int} {n : Nat} (e : ∀ i, i < n → f i = g i + h i) : sg f n = sg g n + sg h n := by
  rw [sg_lin (f := f) (g := g) (h := h) (x := 1) (y := 1) (fun i hi => by rw [e i hi, Int.one_mul, Int.one_mul]), Int.one_mul, Int.one_mul]
theorem sg_zero {f : Nat → Int} : ∀ {n : Nat}, (∀ i, i < n → f i = 0) → sg f n = 0
  | 0, _ => rfl
  | n + 1, e => by
    show sg f n + f n = 0
    rw [sg_zero (fun i hi => e i (by omega)), e n (by omega), Int.zero_add]
theorem sg_one {f : Nat → Int} {k : Nat} : ∀ {n : Nat}, k < n → (∀ i, i < n → i ≠ k → f i = 0) → sg f n = f k
  | 0, h, _ => absurd h (Nat.not_lt_zero k)
  | n + 1, h, e => by
    show sg f n + f n = f k
    by_cases c : k = n
    · subst c
      rw [sg_zero (fun i hi => e i (by omega) (by omega)), Int.zero_add]
    · rw [sg_one (k := k) (by omega) (fun i hi hk => e i (by omega) hk), e n (by omega) (fun h => c h.symm), Int.add_zero]
theorem sg_two {f : Nat → Int} {k l n : Nat} (hk : k < n) (hl : l < n) (h : k ≠ l) (e : ∀ i, i < n → i ≠ k → i ≠ l → f i = 0) : sg f n = f k + f l := by
  rw [sg_add (f := f) (g := fun i => if i = k then f i else 0) (h := fun i => if i = k then 0 else f i) (fun i _ => by by_cases c : i = k <;> simp [c])]
  rw [sg_one (k := k) hk (fun i _ c => by simp [c]), sg_one (k := l) hl (fun i hi c => by by_cases c2 : i = k <;> simp [c2]; exact e i hi c2 c)]
  rw [if_pos rfl, if_neg (fun c => h c.symm)]
theorem sg_swap {h : Nat → Nat → Int} {m : Nat} : ∀ {n : Nat}, sg (fun i => sg (fun j => h i j) m) n = sg (fun j => sg (fun i => h i j) n) m
  | 0 => by
    show (0 : Int) = sg (fun j => 0) m
    rw [sg_zero (fun _ _ => rfl)]
  | n + 1 => by
    show sg (fun i => sg (fun j => h i j) m) n + sg (fun j => h n j) m = sg (fun j => sg (fun i => h i j) n + h n j) m
    rw [sg_swap, sg_add (f := fun j => sg (fun i => h i j) n + h n j) (g := fun j => sg (fun i => h i j) n) (h := fun j => h n j) (fun _ _ => rfl)]
theorem sg_nn {f : Nat → Int} : ∀ {n : Nat}, (∀ i, i < n → 0 ≤ f i) → 0 ≤ sg f n
  | 0, _ => Int.le_refl 0
  | n + 1, e => by
    show 0 ≤ sg f n + f n
    have h1 := sg_nn (f := f) (n := n) (fun i hi => e i (by omega))
    have h2 := e n (by omega)
    omega
theorem sg_nz {f : Nat → Int} : ∀ {n : Nat}, (∀ i, i < n → 0 ≤ f i) → sg f n = 0 → ∀ i, i < n → f i = 0
  | 0, _, _, i, hi => absurd hi (Nat.not_lt_zero i)
  | n + 1, e, h, i, hi => by
    have h0 : sg f n + f n = 0 := h
    have h1 := sg_nn (f := f) (n := n) (fun i hi => e i (by omega))
    have h2 := e n (by omega)
    by_cases c : i = n
    · rw [c]; omega
    · exact sg_nz (n := n) (fun i hi => e i (by omega)) (by omega) i (by omega)
theorem sg_le {f : Nat → Int} {B : Int} : ∀ {n : Nat}, (∀ i, i < n → f i ≤ B) → sg f n ≤ n * B
  | 0, _ => by show (0 : Int) ≤ ((0 : Nat) : Int) * B; simp
  | n + 1, e => by
    show sg f n + f n ≤ ((n + 1 : Nat) : Int) * B
    have h1 := sg_le (f := f) (B := B) (n := n) (fun i hi => e i (by omega))
    have h2 := e n (by omega)
    have h3 : ((n + 1 : Nat) : Int) * B = (n : Int) * B + B := by rw [Int.natCast_add, Int.add_mul]; simp
    rw [h3]
    omega
/-- a column put in place of another -/
def rp (A : Nat → Nat → Int) (k : Nat) (b : Nat → Int) : Nat → Nat → Int := fun r c => if c = k then b r else A r c
theorem rp_s (A : Nat → Nat → Int) (k : Nat) (b : Nat → Int) (r : Nat) : rp A k b r k = b r := if_pos rfl
theorem rp_n (A : Nat → Nat → Int) {k c : Nat} (b : Nat → Int) (r : Nat) (h : c ≠ k) : rp A k b r c = A r c := if_neg h
theorem rp_rp (A : Nat → Nat → Int) (k : Nat) (b u : Nat → Int) : rp (rp A k b) k u = rp A k u := by
  funext r c
  by_cases h : c = k
  · rw [h, rp_s, rp_s]
  · rw [rp_n _ _ _ h, rp_n _ _ _ h, rp_n _ _ _ h]
theorem rp_comm (A : Nat → Nat → Int) {k i : Nat} (b u : Nat → Int) (h : i ≠ k) : rp (rp A k b) i u = rp (rp A i u) k b := by
  funext r c
  by_cases h1 : c = i
  · subst h1
    rw [rp_s, rp_n _ _ _ h, rp_s]
  · by_cases h2 : c = k
    · subst h2
      rw [rp_s, rp_n _ _ _ h1, rp_s]
    · rw [rp_n _ _ _ h1, rp_n _ _ _ h2, rp_n _ _ _ h2, rp_n _ _ _ h1]
theorem rp_self (A : Nat → Nat → Int) (k : Nat) : rp A k (fun r => A r k) = A := by
  funext r c
  by_cases h : c = k
  · rw [h, rp_s]
  · rw [rp_n _ _ _ h]
/-- the determinant of the first rows and columns -/
def dt : Nat → (Nat → Nat → Int) → Int
  | 0, _ => 1
  | p + 1, A => dt p A * A p p - sg (fun k => A p k * dt p (rp A k (fun r => A r p))) p
theorem dt_cong : ∀ (p : Nat) {A B : Nat → Nat → Int}, (∀ r, r < p → ∀ c, c < p → A r c = B r c) → dt p A = dt p B
  | 0, _, _, _ => rfl
  | p + 1, A, B, h => by
    show dt p A * A p p - sg (fun k => A p k * dt p (rp A k (fun r => A r p))) p = dt p B * B p p - sg (fun k => B p k * dt p (rp B k (fun r => B r p))) p
    rw [dt_cong p (A := A) (B := B) (fun r hr c hc => h r (by omega) c (by omega)), h p (by omega) p (by omega)]
    rw [sg_cong (fun k hk => ?_)]
    rw [h p (by omega) k (by omega), dt_cong p (A := rp A k (fun r => A r p)) (B := rp B k (fun r => B r p)) (fun r hr c hc => ?_)]
    by_cases e : c = k
    · rw [e, rp_s, rp_s, h r (by omega) p (by omega)]
    · rw [rp_n _ _ _ e, rp_n _ _ _ e, h r (by omega) c (by omega)]
theorem dt_sl {p k : Nat} (A : Nat → Nat → Int) (b : Nat → Int) (h : k < p) : dt (p + 1) (rp A k b) = dt p (rp A k b) * A p p - sg (fun i => if i = k then b p * dt p (rp A k (fun r => A r p)) else A p i * dt p (rp (rp A i (fun r => A r p)) k b)) p := by
  show dt p (rp A k b) * rp A k b p p - sg (fun i => rp A k b p i * dt p (rp (rp A k b) i (fun r => rp A k b r p))) p = _
  have e : (fun r => rp A k b r p) = (fun r => A r p) := by funext r; exact rp_n _ _ _ (by omega)
  rw [rp_n _ _ _ (by omega), e, sg_cong (fun i hi => ?_)]
  by_cases c : i = k
  · rw [if_pos c, c, rp_s, rp_rp]
  · rw [if_neg c, rp_n _ _ _ c, rp_comm _ _ _ c]
theorem dt_se {p : Nat} (A : Nat → Nat → Int) (b : Nat → Int) : dt (p + 1) (rp A p b) = dt p A * b p - sg (fun i => A p i * dt p (rp A i b)) p := by
  show dt p (rp A p b) * rp A p b p p - sg (fun i => rp A p b p i * dt p (rp (rp A p b) i (fun r => rp A p b r p))) p = _
  have e : (fun r => rp A p b r p) = b := by funext r; exact rp_s _ _ _ _
  rw [rp_s, e, dt_cong p (A := rp A p b) (B := A) (fun r hr c hc => rp_n _ _ _ (by omega)), sg_cong (fun i hi => ?_)]
  rw [rp_n _ _ _ (by omega), dt_cong p (A := rp (rp A p b) i b) (B := rp A i b) (fun r hr c hc => ?_)]
  by_cases c2 : c = i
  · rw [c2, rp_s, rp_s]
  · rw [rp_n _ _ _ c2, rp_n _ _ _ c2, rp_n _ _ _ (by omega)]
theorem dt_lin : ∀ (p : Nat) {k : Nat} (A : Nat → Nat → Int) (x y : Int) (b c : Nat → Int), k < p → dt p (rp A k (fun r => x * b r + y * c r)) = x * dt p (rp A k b) + y * dt p (rp A k c)
  | 0, k, _, _, _, _, _, h => absurd h (Nat.not_lt_zero k)
  | p + 1, k, A, x, y, b, c, h => by
    by_cases e : k = p
    · subst e
      rw [dt_se, dt_se, dt_se, sg_lin (x := x) (y := y) (g := fun i => A k i * dt k (rp A i b)) (h := fun i => A k i * dt k (rp A i c)) (fun i hi => ?_)]
      · grind
      · rw [dt_lin k A x y b c hi]; grind
    · have hk : k < p := by omega
      rw [dt_sl _ _ hk, dt_sl _ _ hk, dt_sl _ _ hk, dt_lin p A x y b c hk, sg_lin (x := x) (y := y) (g := fun i => if i = k then b p * dt p (rp A k (fun r => A r p)) else A p i * dt p (rp (rp A i (fun r => A r p)) k b)) (h := fun i => if i = k then c p * dt p (rp A k (fun r => A r p)) else A p i * dt p (rp (rp A i (fun r => A r p)) k c)) (fun i hi => ?_)]
      · grind
      · by_cases c2 : i = k
        · rw [if_pos c2, if_pos c2, if_pos c2]; grind
        · rw [if_neg c2, if_neg c2, if_neg c2, dt_lin p _ x y b c hk]; grind
theorem dt_add {p k : Nat} (A : Nat → Nat → Int) (b c : Nat → Int) (h : k < p) : dt p (rp A k (fun r => b r + c r)) = dt p (rp A k b) + dt p (rp A k c) := by
  have e := dt_lin p A 1 1 b c h
  rw [Int.one_mul, Int.one_mul] at e
  rw [← e]
  congr 2
  funext r
  rw [Int.one_mul, Int.one_mul]
/-- from 'two equal columns give 0': two columns changed with each other -/
theorem dt_anti {p : Nat} (alt : ∀ (A : Nat → Nat → Int) (k l : Nat), k < l → l < p → (∀ r, A r k = A r l) → dt p A = 0) (A : Nat → Nat → Int) {k l : Nat} (hkl : k < l) (hl : l < p) (u w : Nat → Int) : dt p (rp (rp A k u) l w) + dt p (rp (rp A k w) l u) = 0 := by
  have hk : k < p := by omega
  have h0 : ∀ z : Nat → Int, dt p (rp (rp A k z) l z) = 0 := fun z => alt _ k l hkl hl (fun r => by rw [rp_s, rp_n _ _ _ (by omega), rp_s])
  have hlk : l ≠ k := by omega
  have h1 := h0 (fun r => u r + w r)
  have e1 := dt_add (p := p) (rp A k (fun r => u r + w r)) u w hl
  have e2 : ∀ z : Nat → Int, dt p (rp (rp A k (fun r => u r + w r)) l z) = dt p (rp (rp A k u) l z) + dt p (rp (rp A k w) l z) := fun z => by
    rw [rp_comm A _ z hlk, rp_comm A u z hlk, rp_comm A w z hlk]
    exact dt_add _ u w hk
  rw [e1, e2 u, e2 w, h0 u, h0 w] at h1
  omega
theorem dt_alt : ∀ (p : Nat) (A : Nat → Nat → Int) (k l : Nat), k < l → l < p → (∀ r, A r k = A r l) → dt p A = 0
  | 0, _, _, l, _, h, _ => absurd h (Nat.not_lt_zero l)
  | p + 1, A, k, l, hkl, hl, e => by
    have alt := dt_alt p
    show dt p A * A p p - sg (fun i => A p i * dt p (rp A i (fun r => A r p))) p = 0
    by_cases c : l = p
    · subst c
      rw [sg_one (k := k) hkl (fun i hi hik => ?_)]
      · have e1 : (fun r => A r l) = (fun r => A r k) := by funext r; exact (e r).symm
        rw [e1, rp_self, ← e l, Int.mul_comm, Int.sub_self]
      · have e0 : dt l (rp A i (fun r => A r l)) = 0 := by
          rcases Nat.lt_or_gt_of_ne hik with h | h
          · exact alt _ i k h hkl (fun r => by rw [rp_s, rp_n _ _ _ (by omega), e r])
          · exact alt _ k i h hi (fun r => by rw [rp_s, rp_n _ _ _ (by omega), e r])
        rw [e0, Int.mul_zero]
    · have hlp : l < p := by omega
      rw [alt A k l hkl hlp e, sg_two (k := k) (l := l) (by omega) hlp (by omega) (fun i hi h1 h2 => ?_)]
      · have an := dt_anti alt A hkl hlp (fun r => A r k) (fun r => A r p)
        have e1 : (fun r => A r k) = (fun r => A r l) := by funext r; exact e r
        have e2 : rp (rp A k (fun r => A r p)) l (fun r => A r k) = rp A k (fun r => A r p) := by
          rw [rp_comm _ _ _ (by omega), e1, rp_self]
        rw [rp_self, e2] at an
        rw [e p]
        have an2 : dt p (rp A l (fun r => A r p)) = - dt p (rp A k (fun r => A r p)) := by omega
        rw [an2]
        grind
      · rw [alt _ k l hkl hlp (fun r => by rw [rp_n _ _ _ (by omega), rp_n _ _ _ (by omega), e r]), Int.mul_zero]
theorem dt_zero {p k : Nat} (A : Nat → Nat → Int) (h : k < p) : dt p (rp A k (fun _ => 0)) = 0 := by
  have e := dt_lin p A 0 0 (fun _ => 0) (fun _ => 0) h
  rw [Int.zero_mul, Int.zero_mul, Int.zero_add] at e
  exact e
theorem dt_sum {p k : Nat} (A : Nat → Nat → Int) (B : Nat → Nat → Int) (y : Nat → Int) (h : k < p) : ∀ m, dt p (rp A k (fun r => sg (fun i => B r i * y i) m)) = sg (fun i => y i * dt p (rp A k (fun r => B r i))) m
  | 0 => dt_zero A h
  | m + 1 => by
    show dt p (rp A k (fun r => sg (fun i => B r i * y i) m + B r m * y m)) = sg (fun i => y i * dt p (rp A k (fun r => B r i))) m + y m * dt p (rp A k (fun r => B r m))
    rw [← dt_sum A B y h m]
    have e := dt_lin p A 1 (y m) (fun r => sg (fun i => B r i * y i) m) (fun r => B r m) h
    rw [Int.one_mul] at e
    rw [← e]
    congr 2
    funext r
    rw [Int.one_mul, Int.mul_comm (B r m)]
/-- by columns: what goes for a column gives the number again -/
theorem dt_adj {p k : Nat} (A : Nat → Nat → Int) (y : Nat → Int) (h : k < p) : dt p (rp A k (fun r => sg (fun i => A r i * y i) p)) = y k * dt p A := by
  rw [dt_sum A A y h p, sg_one (k := k) h (fun i hi hik => ?_), rp_self]
  have e0 : dt p (rp A k (fun r => A r i)) = 0 := by
    rcases Nat.lt_or_gt_of_ne hik with c | c
    · exact dt_alt p _ i k c h (fun r => by rw [rp_s, rp_n _ _ _ (by omega)])
    · exact dt_alt p _ k i c hi (fun r => by rw [rp_s, rp_n _ _ _ (by omega)])
  rw [e0, Int.mul_zero]
/-! ===== elimination ===== -/
/-- numerators by Cramer, and what is left of a row -/
def cX (p : Nat) (A : Nat → Nat → Int) (b : Nat → Int) (i : Nat) : Int := dt p (rp A i b)
def cM (p : Nat) (A : Nat → Nat → Int) (b : Nat → Int) (r : Nat) : Int := dt p A * b r - sg (fun k => A r k * cX p A b k) p
def Ap (A : Nat → Nat → Int) (p : Nat) : Nat → Int := fun r => A r p
theorem cX_last (p : Nat) (A : Nat → Nat → Int) (b : Nat → Int) : cX (p + 1) A b p = cM p A b p := dt_se A b
theorem dt_next (p : Nat) (A : Nat → Nat → Int) : dt (p + 1) A = cM p A (Ap A p) p := rfl
def Cr (p : Nat) (A : Nat → Nat → Int) : Prop := ∀ (b : Nat → Int) (r : Nat), r < p → sg (fun i => A r i * cX p A b i) p = dt p A * b r
def yy (p : Nat) (A : Nat → Nat → Int) (b : Nat → Int) (i : Nat) : Int := if i < p then dt (p + 1) A * cX p A b i - cX p A (Ap A p) i * cM p A b p else dt p A * cM p A b p
theorem yy_row {p : Nat} {A : Nat → Nat → Int} (h : Cr p A) (b : Nat → Int) {r : Nat} (hr : r < p + 1) : sg (fun i => A r i * yy p A b i) (p + 1) = (dt p A * dt (p + 1) A) * b r := by
  show sg (fun i => A r i * yy p A b i) p + A r p * yy p A b p = _
  have e1 : yy p A b p = dt p A * cM p A b p := if_neg (Nat.lt_irrefl p)
  have e2 : sg (fun i => A r i * yy p A b i) p = dt (p + 1) A * sg (fun i => A r i * cX p A b i) p + (- cM p A b p) * sg (fun i => A r i * cX p A (Ap A p) i) p := sg_lin (fun i hi => by
    have e3 : yy p A b i = dt (p + 1) A * cX p A b i - cX p A (Ap A p) i * cM p A b p := if_pos hi
    show A r i * yy p A b i = _
    rw [e3]; grind)
  rw [e1, e2]
  by_cases c : r = p
  · subst c
    have h1 : sg (fun i => A r i * cX r A b i) r = dt r A * b r - cM r A b r := by unfold cM; omega
    have h2 : sg (fun i => A r i * cX r A (Ap A r) i) r = dt r A * A r r - dt (r + 1) A := by rw [dt_next]; unfold cM Ap; omega
    rw [h1, h2]; grind
  · rw [h b r (by omega), h (Ap A p) r (by omega)]
    unfold Ap
    grind
theorem cr_up {p : Nat} {A : Nat → Nat → Int} (h : Cr p A) (h1 : dt (p + 1) A ≠ 0) (b : Nat → Int) {k : Nat} (hk : k < p + 1) : dt p A * cX (p + 1) A b k = yy p A b k := by
  have e1 := dt_adj (p := p + 1) A (yy p A b) hk
  rw [dt_cong (p + 1) (A := rp A k (fun r => sg (fun i => A r i * yy p A b i) (p + 1))) (B := rp A k (fun r => (dt p A * dt (p + 1) A) * b r + 0 * b r)) (fun r hr c hc => ?_), dt_lin (p + 1) A _ _ _ _ hk] at e1
  · have e2 : dt (p + 1) A * (dt p A * cX (p + 1) A b k) = dt (p + 1) A * yy p A b k := by
      have : cX (p + 1) A b k = dt (p + 1) (rp A k b) := rfl
      rw [this]
      grind
    exact Int.eq_of_mul_eq_mul_left h1 e2
  · by_cases c2 : c = k
    · rw [c2, rp_s, rp_s, yy_row h b hr, Int.zero_mul, Int.add_zero]
    · rw [rp_n _ _ _ c2, rp_n _ _ _ c2]
theorem cr_succ {p : Nat} {A : Nat → Nat → Int} (h : Cr p A) (h0 : dt p A ≠ 0) (h1 : dt (p + 1) A ≠ 0) : Cr (p + 1) A := by
  intro b r hr
  have e1 := yy_row h b hr
  have e2 : sg (fun i => A r i * yy p A b i) (p + 1) = dt p A * sg (fun i => A r i * cX (p + 1) A b i) (p + 1) := sg_mul (fun i hi => by
    show A r i * yy p A b i = _
    rw [← cr_up h h1 b hi]; grind)
  rw [e2] at e1
  exact Int.eq_of_mul_eq_mul_left h0 (by rw [e1]; grind)
theorem cr_all {A : Nat → Nat → Int} : ∀ {p : Nat}, (∀ q, q ≤ p → dt q A ≠ 0) → Cr p A
  | 0, _ => fun b r hr => absurd hr (Nat.not_lt_zero r)
  | p + 1, h => cr_succ (cr_all (fun q hq => h q (by omega))) (h p (by omega)) (h (p + 1) (by omega))
theorem up_x {p : Nat} {A : Nat → Nat → Int} (h : Cr p A) (h1 : dt (p + 1) A ≠ 0) (b : Nat → Int) {k : Nat} (hk : k < p) : dt p A * cX (p + 1) A b k = dt (p + 1) A * cX p A b k - cX p A (Ap A p) k * cM p A b p := by
  rw [cr_up h h1 b (by omega)]
  exact if_pos hk
theorem up_m {p : Nat} {A : Nat → Nat → Int} (h : Cr p A) (h1 : dt (p + 1) A ≠ 0) (b : Nat → Int) (r : Nat) : dt p A * cM (p + 1) A b r = dt (p + 1) A * cM p A b r - cM p A (Ap A p) r * cM p A b p := by
  have e1 : cM (p + 1) A b r = dt (p + 1) A * b r - (sg (fun k => A r k * cX (p + 1) A b k) p + A r p * cM p A b p) := by
    rw [← cX_last]; rfl
  have e2 : sg (fun k => dt p A * (A r k * cX (p + 1) A b k)) p = dt (p + 1) A * sg (fun k => A r k * cX p A b k) p + (- cM p A b p) * sg (fun k => A r k * cX p A (Ap A p) k) p := sg_lin (fun k hk => by
    have := up_x h h1 b hk
    grind)
  have e3 : sg (fun k => dt p A * (A r k * cX (p + 1) A b k)) p = dt p A * sg (fun k => A r k * cX (p + 1) A b k) p := sg_mul (fun _ _ => rfl)
  have e4 : sg (fun k => A r k * cX p A b k) p = dt p A * b r - cM p A b r := by unfold cM; omega
  have e5 : sg (fun k => A r k * cX p A (Ap A p) k) p = dt p A * A r p - cM p A (Ap A p) r := by unfold cM Ap; omega
  rw [e3, e4, e5] at e2
  rw [e1]
  grind
