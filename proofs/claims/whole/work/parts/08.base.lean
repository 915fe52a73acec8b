-- words of my own: how models are written (values with a name, checks, results of calls)
def nmd {α β : Type} (a : α) (f : α → β) : β := f a
theorem nmd_eq {α β : Type} {a y : α} {f : α → β} (h : y = a) : f y = nmd a f := by rw [h]; rfl
def chk {α : Type} (i : Int32) (n : Nat) (x : Option α) : Option α := if i < 0 ∨ n ≤ i.toNatClampNeg then none else x
theorem chk_some {α : Type} {i : Int32} {n : Nat} {x : Option α} {o : α} (h : chk i n x = some o) : vp_in i n ∧ x = some o := by
  unfold chk at h
  by_cases c : i < 0 ∨ n ≤ i.toNatClampNeg
  · rw [if_pos c] at h; cases h
  · rw [if_neg c] at h; exact ⟨c, h⟩
theorem chk_in {α : Type} {i : Int32} {n : Nat} {x : Option α} (h : vp_in i n) : chk i n x = x := if_neg h
def chkD {α : Type} (y : Int32) (x : Option α) : Option α := if y = 0 then none else x
theorem chkD_some {α : Type} {y : Int32} {x : Option α} {o : α} (h : chkD y x = some o) : ¬ y = 0 ∧ x = some o := by
  unfold chkD at h
  by_cases c : y = 0
  · rw [if_pos c] at h; cases h
  · rw [if_neg c] at h; exact ⟨c, h⟩
def chkDL {α : Type} (y : Int64) (x : Option α) : Option α := if y = 0 then none else x
theorem chkDL_some {α : Type} {y : Int64} {x : Option α} {o : α} (h : chkDL y x = some o) : ¬ y = 0 ∧ x = some o := by
  unfold chkDL at h
  by_cases c : y = 0
  · rw [if_pos c] at h; cases h
  · rw [if_neg c] at h; exact ⟨c, h⟩
def chkZ {α : Type} (y : Int32) (x : Option α) : Option α := if y = 0 ∨ y = 1 then x else none
theorem chkZ_some {α : Type} {y : Int32} {x : Option α} {o : α} (h : chkZ y x = some o) : narrow .boolean (.int y) = .int y ∧ x = some o := by
  unfold chkZ at h
  by_cases c : y = 0 ∨ y = 1
  · rw [if_pos c] at h
    refine ⟨?_, h⟩
    rcases c with rfl | rfl <;> decide +kernel
  · rw [if_neg c] at h; cases h
def chkC {α : Type} (y : Int32) (x : Option α) : Option α := if (y.toUInt32 % 65536).toInt32 = y then x else none
theorem chkC_some {α : Type} {y : Int32} {x : Option α} {o : α} (h : chkC y x = some o) : narrow .char (.int y) = .int y ∧ x = some o := by
  unfold chkC at h
  by_cases c : (y.toUInt32 % 65536).toInt32 = y
  · rw [if_pos c] at h
    refine ⟨?_, h⟩
    have := pk_nc y
    rw [c] at this
    exact this
  · rw [if_neg c] at h; cases h
def bnd0 {ρ : Type} (a : Option Unit) (f : Option ρ) : Option ρ := match a with | none => none | some _ => f
theorem bnd0_some {ρ : Type} {a : Option Unit} {f : Option ρ} {o : ρ} (h : bnd0 a f = some o) : a = some () ∧ f = some o := by
  cases a with
  | none => cases h
  | some x => exact ⟨rfl, h⟩
def bnd1 {α ρ : Type} (a : Option α) (f : α → Option ρ) : Option ρ := match a with | none => none | some x => f x
theorem bnd1_some {α ρ : Type} {a : Option α} {f : α → Option ρ} {o : ρ} (h : bnd1 a f = some o) : ∃ x, a = some x ∧ f x = some o := by
  cases a with
  | none => cases h
  | some x => exact ⟨x, rfl, h⟩
def bnd2 {α β ρ : Type} (a : Option (α × β)) (f : α → β → Option ρ) : Option ρ := match a with | none => none | some x => f x.1 x.2
theorem bnd2_some {α β ρ : Type} {a : Option (α × β)} {f : α → β → Option ρ} {o : ρ} (h : bnd2 a f = some o) : ∃ x y, a = some (x, y) ∧ f x y = some o := by
  cases a with
  | none => cases h
  | some x => exact ⟨x.1, x.2, rfl, h⟩
def bnd3 {α β γ ρ : Type} (a : Option (α × β × γ)) (f : α → β → γ → Option ρ) : Option ρ := match a with | none => none | some x => f x.1 x.2.1 x.2.2
theorem bnd3_some {α β γ ρ : Type} {a : Option (α × β × γ)} {f : α → β → γ → Option ρ} {o : ρ} (h : bnd3 a f = some o) : ∃ x y z, a = some (x, y, z) ∧ f x y z = some o := by
  cases a with
  | none => cases h
  | some x => exact ⟨x.1, x.2.1, x.2.2, rfl, h⟩
def bnd4 {α β γ δ ρ : Type} (a : Option (α × β × γ × δ)) (f : α → β → γ → δ → Option ρ) : Option ρ := match a with | none => none | some x => f x.1 x.2.1 x.2.2.1 x.2.2.2
theorem bnd4_some {α β γ δ ρ : Type} {a : Option (α × β × γ × δ)} {f : α → β → γ → δ → Option ρ} {o : ρ} (h : bnd4 a f = some o) : ∃ x y z w, a = some (x, y, z, w) ∧ f x y z w = some o := by
  cases a with
  | none => cases h
  | some x => exact ⟨x.1, x.2.1, x.2.2.1, x.2.2.2, rfl, h⟩
def bnd5 {α β γ δ ε ρ : Type} (a : Option (α × β × γ × δ × ε)) (f : α → β → γ → δ → ε → Option ρ) : Option ρ := match a with | none => none | some x => f x.1 x.2.1 x.2.2.1 x.2.2.2.1 x.2.2.2.2
theorem bnd5_some {α β γ δ ε ρ : Type} {a : Option (α × β × γ × δ × ε)} {f : α → β → γ → δ → ε → Option ρ} {o : ρ} (h : bnd5 a f = some o) : ∃ x y z w v, a = some (x, y, z, w, v) ∧ f x y z w v = some o := by
  cases a with
  | none => cases h
  | some x => exact ⟨x.1, x.2.1, x.2.2.1, x.2.2.2.1, x.2.2.2.2, rfl, h⟩
def bnd6 {α β γ δ ε ζ ρ : Type} (a : Option (α × β × γ × δ × ε × ζ)) (f : α → β → γ → δ → ε → ζ → Option ρ) : Option ρ := match a with | none => none | some x => f x.1 x.2.1 x.2.2.1 x.2.2.2.1 x.2.2.2.2.1 x.2.2.2.2.2
theorem bnd6_some {α β γ δ ε ζ ρ : Type} {a : Option (α × β × γ × δ × ε × ζ)} {f : α → β → γ → δ → ε → ζ → Option ρ} {o : ρ} (h : bnd6 a f = some o) : ∃ x y z w v u, a = some (x, y, z, w, v, u) ∧ f x y z w v u = some o := by
  cases a with
  | none => cases h
  | some x => exact ⟨x.1, x.2.1, x.2.2.1, x.2.2.2.1, x.2.2.2.2.1, x.2.2.2.2.2, rfl, h⟩
def bnd7 {α β γ δ ε ζ η ρ : Type} (a : Option (α × β × γ × δ × ε × ζ × η)) (f : α → β → γ → δ → ε → ζ → η → Option ρ) : Option ρ := match a with | none => none | some x => f x.1 x.2.1 x.2.2.1 x.2.2.2.1 x.2.2.2.2.1 x.2.2.2.2.2.1 x.2.2.2.2.2.2
theorem bnd7_some {α β γ δ ε ζ η ρ : Type} {a : Option (α × β × γ × δ × ε × ζ × η)} {f : α → β → γ → δ → ε → ζ → η → Option ρ} {o : ρ} (h : bnd7 a f = some o) : ∃ x y z w v u t, a = some (x, y, z, w, v, u, t) ∧ f x y z w v u t = some o := by
  cases a with
  | none => cases h
  | some x => exact ⟨x.1, x.2.1, x.2.2.1, x.2.2.2.1, x.2.2.2.2.1, x.2.2.2.2.2.1, x.2.2.2.2.2.2, rfl, h⟩
def bnd8 {α β γ δ ε ζ η θ ρ : Type} (a : Option (α × β × γ × δ × ε × ζ × η × θ)) (f : α → β → γ → δ → ε → ζ → η → θ → Option ρ) : Option ρ := match a with | none => none | some x => f x.1 x.2.1 x.2.2.1 x.2.2.2.1 x.2.2.2.2.1 x.2.2.2.2.2.1 x.2.2.2.2.2.2.1 x.2.2.2.2.2.2.2
theorem bnd8_some {α β γ δ ε ζ η θ ρ : Type} {a : Option (α × β × γ × δ × ε × ζ × η × θ)} {f : α → β → γ → δ → ε → ζ → η → θ → Option ρ} {o : ρ} (h : bnd8 a f = some o) : ∃ x y z w v u t r, a = some (x, y, z, w, v, u, t, r) ∧ f x y z w v u t r = some o := by
  cases a with
  | none => cases h
  | some x => exact ⟨x.1, x.2.1, x.2.2.1, x.2.2.2.1, x.2.2.2.2.1, x.2.2.2.2.2.1, x.2.2.2.2.2.2.1, x.2.2.2.2.2.2.2, rfl, h⟩
theorem ifp {c : Prop} [Decidable c] {α : Type} {a b : Option α} {o : α} (h : c) (hm : (if c then a else b) = some o) : a = some o := by rw [if_pos h] at hm; exact hm
theorem ifn {c : Prop} [Decidable c] {α : Type} {a b : Option α} {o : α} (h : ¬ c) (hm : (if c then a else b) = some o) : b = some o := by rw [if_neg h] at hm; exact hm
theorem non_some {α : Type} {o : α} {P : Prop} (hm : (none : Option α) = some o) : P := by cases hm
-- numbers with a name
def remI (x y : Int32) : Int32 := x - x / y * y
def remL (x y : Int64) : Int64 := x - x / y * y
def shlI (x y : Int32) : Int32 := x <<< (y &&& 31)
def shrI (x y : Int32) : Int32 := x >>> (y &&& 31)
def ushrI (x y : Int32) : Int32 := (x.toUInt32 >>> (y.toUInt32 &&& Int32.toUInt32 31)).toInt32
def shlL (x : Int64) (y : Int32) : Int64 := x <<< (y.toInt64 &&& 63)
def ushrL (x : Int64) (y : Int32) : Int64 := (x.toUInt64 >>> (y.toInt64.toUInt64 &&& Int64.toUInt64 63)).toInt64
def i2cI (x : Int32) : Int32 := (x.toUInt32 % 65536).toInt32
def absL (x : Int64) : Int64 := if 0 < x then x else -x
def minI (x y : Int32) : Int32 := if y < x then y else x
-- what holds of the machine throughout: classes, array classes, links to private members of nest mates, the table of sines
def gTy (k : Nat → ClassId) : List (ClassId × FieldType) := [(k 0, .int), (k 1, .long), (k 2, .char), (k 3, .boolean), (k 4, .object RX0)]
def gN (U : State) : Prop :=
  va_Nw (.methodLinkNest RX5 9 yX4_init RX5) U ∧ va_Nw (.methodLinkNest RX5 18 yX0_init RX5) U ∧ va_Nw (.methodLinkNest RX5 25 yX1_init RX5) U ∧
  va_Nw (.methodLinkNest RX5 36 yX2_init RX5) U ∧ va_Nw (.methodLinkNest RX5 43 yX3_init RX5) U ∧ va_Nw (.methodLinkNest RX4 43 yX5_allows RX5) U ∧
  va_Nw (.methodLinkNest RX1 24 yX0_init RX5) U ∧ va_Nw (.methodLinkNest RX3 39 yX5_holds RX5) U ∧ va_Nw (.methodLinkNest RX0 73 yX5_holds RX5) U ∧ va_AO RX0 U
theorem gN.same {u U : State} (h : u.vm = U.vm) (q : gN u) : gN U := by
  obtain ⟨q0, q1, q2, q3, q4, q5, q6, q7, q8, q9⟩ := q
  exact ⟨va_Nw.same rfl h q0, va_Nw.same rfl h q1, va_Nw.same rfl h q2, va_Nw.same rfl h q3, va_Nw.same rfl h q4, va_Nw.same rfl h q5, va_Nw.same rfl h q6, va_Nw.same rfl h q7, va_Nw.same rfl h q8, va_AO.moved (by rw [h]; exact Vm.Alike.refl U.vm) q9⟩
theorem gN.warm {s U : State} (hW : s.WarmedH U.vm) (q : gN s) : gN U := by
  obtain ⟨q0, q1, q2, q3, q4, q5, q6, q7, q8, q9⟩ := q
  exact ⟨va_Nw.warmM hW q0, va_Nw.warmM hW q1, va_Nw.warmM hW q2, va_Nw.warmM hW q3, va_Nw.warmM hW q4, va_Nw.warmM hW q5, va_Nw.warmM hW q6, va_Nw.warmM hW q7, va_Nw.warmM hW q8, va_AO.moved hW.alike q9⟩
def sinT : Nat → Int32 := fun j => ([0, 50, 87, 100, 87, 50, 0, -50, -87, -100, -87, -50] : List Int32).getD j 0
def gSin : Nat → Value := fun j => .int (sinT j)
def gZ (A : Nat → Prop) (U : State) : Prop := ∃ t : Nat, va_Z RX0 "SINES" "[I" (.ref t) A U U.heap ∧ va_T .int t 12 gSin A U U.heap
def gK (dC : Nat → ClassId) (dI : Nat → Nat → Nat) (k : Nat → ClassId) (A : Nat → Prop) (U : State) : Prop := va_K (dC, dI) vwCl (gTy k) U ∧ gN U ∧ gZ A U
theorem gK.call {dC : Nat → ClassId} {dI : Nat → Nat → Nat} {k : Nat → ClassId} {A : Nat → Prop} {U : State} (a : Array Value) (g : JFrame) (mk : MethodId) (q : gK dC dI k A U) : gK dC dI k A (U.calling g mk a) := by
  obtain ⟨q1, q2, t, q3, q4⟩ := q
  exact ⟨va_K.moved (u := U) (U := U.calling g mk a) (Vm.Alike.refl U.vm) q1, gN.same (u := U) (U := U.calling g mk a) rfl q2, t, va_Z.moved (u := U) (U := U.calling g mk a) (Vm.Alike.refl U.vm) q3, va_T.moved (u := U) (U := U.calling g mk a) (Vm.Alike.refl U.vm) q4⟩
theorem gK.go {dC : Nat → ClassId} {dI : Nat → Nat → Nat} {k : Nat → ClassId} {A B : Nat → Prop} {s U : State} {H : Heap} {locs : List Loc} (q : gK dC dI k A s) (hS : va_S A s.heap H locs) (hB : ∀ q, B q → A q) (hU : U.heap = H) (hW : s.WarmedH U.vm) : gK dC dI k B U := by
  obtain ⟨q1, q2, t, q3, q4⟩ := q
  refine ⟨va_K.moved hW.alike q1, gN.warm hW q2, t, ?_, ?_⟩
  · rw [hU]; exact ((q3.moved hW.alike).kept hS.2.1).narrow hB
  · rw [hU]; exact ((q4.moved hW.alike).kept hS.2.1).narrow hB
-- contracts
def gPre (dC : Nat → ClassId) (dI : Nat → Nat → Nat) (k : Nat → ClassId) (av : List Value) (sz : Nat) (ws : va_W) : Array Value → State → Prop :=
  va_Pc av (fun U => U.heap.size = sz ∧ va_P (dC, dI) vwCl ws U.heap ∧ gK dC dI k (va_A ws sz) U ∧ va_D (fun _ => True) ws)
def gB (dC : Nat → ClassId) (dI : Nat → Nat → Nat) (A : Nat → Prop) (w : va_W) (t : State) : Prop := va_P (dC, dI) vwCl w t.heap ∧ va_D A w
def gQI (dC : Nat → ClassId) (dI : Nat → Nat → Nat) (A : Nat → Prop) (r : Int32) (w : va_W) : Array Value → State → Outcome → State → Prop := va_Qi (fun v (_ : Unit) => v = r) (fun _ t => gB dC dI A w t) A
def gQL (dC : Nat → ClassId) (dI : Nat → Nat → Nat) (A : Nat → Prop) (r : Int64) (w : va_W) : Array Value → State → Outcome → State → Prop := va_Ql (fun v (_ : Unit) => v = r) (fun _ t => gB dC dI A w t) A
def gQV (dC : Nat → ClassId) (dI : Nat → Nat → Nat) (A : Nat → Prop) (w : va_W) : Array Value → State → Outcome → State → Prop := va_Qv (fun (_ : Unit) => True) (fun _ t => gB dC dI A w t) A
theorem gPre_blind {dC : Nat → ClassId} {dI : Nat → Nat → Nat} {k : Nat → ClassId} {av : List Value} {sz : Nat} {ws : va_W} : FrameBlind (gPre dC dI k av sz ws) := by
  intro a U g mk q
  obtain ⟨q0, q1, qP, qK, qD⟩ := q
  exact ⟨q0, q1, qP, qK.call a g mk, qD⟩
theorem map_fm {α : Type} {f : Nat → Option α} : ∀ {is : List Nat} {w : List α}, is.map f = w.map some → is.filterMap f = w
  | [], [], _ => rfl
  | [], _ :: _, h => by cases h
  | _ :: _, [], h => by cases h
  | i :: is, x :: w, h => by
    rw [List.map_cons, List.map_cons] at h
    injection h with h1 h2
    rw [List.filterMap_cons, h1]
    show x :: is.filterMap f = x :: w
    rw [map_fm h2]
