/-! numbers: an int of the machine is the image of an integer -/
def iI (x : Int) : Int32 := Int32.ofInt x
abbrev InR (x : Int) : Prop := -2147483648 ≤ x ∧ x < 2147483648
theorem iI_add (a b : Int) : iI a + iI b = iI (a + b) := (Int32.ofInt_add ..).symm
theorem iI_sub (a b : Int) : iI a - iI b = iI (a - b) := (Int32.ofInt_sub ..).symm
theorem iI_mul (a b : Int) : iI a * iI b = iI (a * b) := (Int32.ofInt_mul ..).symm
theorem iI_neg (a : Int) : -iI a = iI (-a) := (Int32.ofInt_neg ..).symm
theorem iI_toInt {a : Int} (h : InR a) : (iI a).toInt = a := Int32.toInt_ofInt_of_le (by have := h.1; omega) (by have := h.2; omega)
theorem iI_of (v : Int32) : iI v.toInt = v := Int32.ofInt_toInt v
theorem inR_of (v : Int32) : InR v.toInt := ⟨by have := Int32.le_toInt v; omega, by have := Int32.toInt_lt v; omega⟩
theorem iI_lt {a b : Int} (ha : InR a) (hb : InR b) : iI a < iI b ↔ a < b := by rw [Int32.lt_iff_toInt_lt, iI_toInt ha, iI_toInt hb]
theorem iI_le {a b : Int} (ha : InR a) (hb : InR b) : iI a ≤ iI b ↔ a ≤ b := by rw [Int32.le_iff_toInt_le, iI_toInt ha, iI_toInt hb]
theorem iI_eq {a b : Int} (ha : InR a) (hb : InR b) : iI a = iI b ↔ a = b := by
  constructor
  · intro h
    have := congrArg Int32.toInt h
    rwa [iI_toInt ha, iI_toInt hb] at this
  · intro h; rw [h]
theorem iI_0 : iI 0 = 0 := rfl
theorem inR_0 : InR 0 := by decide
theorem iI_clamp {a : Int} (h0 : 0 ≤ a) (h : a < 2147483648) : (iI a).toNatClampNeg = a.toNat := by
  rw [Int32.toNatClampNeg, iI_toInt ⟨by omega, h⟩]
theorem iI_in {a : Int} {n : Nat} (hn : (n : Int) ≤ 2147483648) (h : 0 ≤ a ∧ a < n) : vp_in (iI a) n := vp_in_iff.mpr (by rw [iI_toInt ⟨by omega, by omega⟩]; exact h)
/-! the pure side: what may fail is an option -/
def ck {α : Type} (x : Int) (k : Option α) : Option α := if InR x then k else none
def ix {α : Type} (x n : Int) (k : Option α) : Option α := if 0 ≤ x ∧ x < n then k else none
theorem ck_some {α : Type} {x : Int} {k : Option α} {r : α} (h : ck x k = some r) : InR x ∧ k = some r := by
  unfold ck at h; split at h
  · exact ⟨by assumption, h⟩
  · cases h
theorem ix_some {α : Type} {x n : Int} {k : Option α} {r : α} (h : ix x n k = some r) : (0 ≤ x ∧ x < n) ∧ k = some r := by
  unfold ix at h; split at h
  · exact ⟨by assumption, h⟩
  · cases h
theorem bd_some {α β : Type} {x : Option α} {f : α → Option β} {r : β} (h : x.bind f = some r) : ∃ y, x = some y ∧ f y = some r := by
  cases x with
  | none => cases h
  | some y => exact ⟨y, rfl, h⟩
/-- a loop: its body goes on with a new state, or ends with a result -/
def lp {σ ρ : Type} (body : σ → Option (σ ⊕ ρ)) : Nat → σ → Option ρ
  | 0, _ => none
  | n + 1, s => (body s).bind fun x => match x with
    | .inl s' => lp body n s'
    | .inr r => some r
theorem lp_0 {σ ρ : Type} {body : σ → Option (σ ⊕ ρ)} {s : σ} {r : ρ} (h : lp body 0 s = some r) : False := by cases h
theorem lp_s {σ ρ : Type} {body : σ → Option (σ ⊕ ρ)} {n : Nat} {s : σ} {r : ρ} (h : lp body (n + 1) s = some r) : ∃ x, body s = some x ∧ ((∃ s', x = .inl s' ∧ lp body n s' = some r) ∨ x = .inr r) := by
  obtain ⟨x, h1, h2⟩ := bd_some h
  refine ⟨x, h1, ?_⟩
  cases x with
  | inl s' => exact Or.inl ⟨s', rfl, h2⟩
  | inr q => exact Or.inr (by cases h2; rfl)
/-! rows of integers -/
def up (r : Int → Int) (i v : Int) : Int → Int := fun j => if j = i then v else r j
def lf (r : Int → Int) : Nat → Int32 := fun j => iI (r j)
theorem lf_at (r : Int → Int) {i : Int} (h0 : 0 ≤ i) (h : i < 2147483648) : lf r (iI i).toNatClampNeg = iI (r i) := by
  rw [iI_clamp h0 h]; unfold lf; rw [Int.toNat_of_nonneg h0]
theorem lf_up (r : Int → Int) {i : Int} (v : Int) (h0 : 0 ≤ i) (h : i < 2147483648) : upd (lf r) (iI i).toNatClampNeg (iI v) = lf (up r i v) := by
  rw [iI_clamp h0 h]
  funext j
  unfold upd lf up
  by_cases e : j = i.toNat
  · subst e; rw [if_pos rfl, if_pos (Int.toNat_of_nonneg h0)]
  · rw [if_neg e, if_neg (by omega)]
/-! the nest's words -/
def xN (U : State) : Prop := va_Nw (.fieldLinkNest RX4 34 RX5 "letters" "[I" RX6) U ∧ va_Nw (.fieldLinkNest RX4 37 RX5 "places" "[I" RX6) U ∧ va_Nw (.fieldLinkNest RX4 24 RX5 "length" "I" RX6) U ∧ va_Nw (.methodLinkNest RX3 36 yX6_isLetter RX6) U
theorem xN.same {u U : State} (h : u.vm = U.vm) (hZ : xN u) : xN U := ⟨va_Nw.same rfl h hZ.1, va_Nw.same rfl h hZ.2.1, va_Nw.same rfl h hZ.2.2.1, va_Nw.same rfl h hZ.2.2.2⟩
theorem xN.warm {s U : State} (hW : s.WarmedH U.vm) (hZ : xN s) : xN U := ⟨va_Nw.warmF hW hZ.1, va_Nw.warmF hW hZ.2.1, va_Nw.warmF hW hZ.2.2.1, va_Nw.warmM hW hZ.2.2.2⟩
/-! the array classes of the worlds -/
abbrev xty (cI cO : ClassId) : List (ClassId × FieldType) := [(cI, .int), (cO, .array .int)]
/-- the global numbers of a launch: class ids, slots, the two array classes -/
abbrev xG : Type := va_G × ClassId × ClassId
abbrev xK (g : xG) (U : State) : Prop := va_K g.1 vwCl (xty g.2.1 g.2.2) U
/-- a contract's start, and its ends -/
def xPre (g : xG) (av : List Value) (w : va_W) (sz : Nat) : Array Value → State → Prop := va_Pc av (fun U => U.heap.size = sz ∧ va_P g.1 vwCl w U.heap ∧ xK g U ∧ xN U ∧ va_D (fun _ => True) w)
def xB (g : xG) (w w' : va_W) (sz : Nat) (_ : Unit) (t : State) : Prop := va_P g.1 vwCl w' t.heap ∧ va_D (va_A w sz) w'
/-- an int method: answers r, the world w is w' then -/
def xMi (l : Launch) (y : MethodName) (ws : List Cond) (rm : Room) (g : xG) (av : List Value) (w w' : va_W) (r : Int) : Prop := ∀ sz : Nat, Met l y ws rm (xPre g av w sz) (va_Qi (fun v _ => v = iI r) (xB g w w' sz) (va_A w sz)) 0 0 (va_A w sz)
/-- a void method -/
def xMv (l : Launch) (y : MethodName) (ws : List Cond) (rm : Room) (g : xG) (av : List Value) (w w' : va_W) : Prop := ∀ sz : Nat, Met l y ws rm (xPre g av w sz) (va_Qv (fun _ => True) (xB g w w' sz) (va_A w sz)) 0 0 (va_A w sz)
theorem xPre_blind (g : xG) (av : List Value) (w : va_W) (sz : Nat) : FrameBlind (xPre g av w sz) := by
  intro a U f mk q
  obtain ⟨q0, q1, qP, qK, qN, qD⟩ := q
  exact ⟨q0, q1, qP, va_K.moved (u := U) (U := U.calling f mk a) (Vm.Alike.refl U.vm) qK, xN.same rfl qN, qD⟩
/-- the fixed things of a walk -/
def xCx (p : Program) (s : State) (m : MethodId) (args : Array Value) (c : Code) (cc : ByteArray) (nL : Nat) (Ts : List Cond) (own : String) (g : xG) (A : Nat → Prop) : Prop :=
  p.tables.exec = Jvm.exec ∧ c.code = cc ∧ c.maxLocals = nL ∧ s.vm.findClass own = some m.cls ∧ (∀ w ∈ Ts, w.before args s = true) ∧ xK g s ∧ xN s ∧ (∀ q : Nat, s.heap.size ≤ q → A q)
/-- the world of a walk -/
def xSt (g : xG) (A : Nat → Prop) (s : State) (ws : va_W) (H : Heap) (locs : List Loc) : Prop := va_P g.1 vwCl ws H ∧ va_D A ws ∧ va_S A s.heap H locs
