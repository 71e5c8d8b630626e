/-! the pure side: a calculus for options, loops, sums -/
theorem ck_of {α : Type} {x : Int} {k : Option α} (h : InR x) : ck x k = k := if_pos h
theorem ix_of {α : Type} {x n : Int} {k : Option α} (h : 0 ≤ x ∧ x < n) : ix x n k = k := if_pos h
theorem bk_of {α : Type} {x : Int} {k : Option α} (h : x = 0 ∨ x = 1) : bk x k = k := if_pos h
theorem bd_of {α β : Type} {x : Option α} {r : α} {f : α → Option β} (h : x = some r) : x.bind f = f r := by rw [h]; rfl
theorem up_s (r : Row) (i v : Int) : up r i v i = v := if_pos rfl
theorem up_n (r : Row) {i j : Int} (v : Int) (h : j ≠ i) : up r i v j = r j := if_neg h
def Ok {α : Type} (x : Option α) (Q : α → Prop) : Prop := ∃ r, x = some r ∧ Q r
theorem ok_so {α : Type} {r : α} {Q : α → Prop} (h : Q r) : Ok (some r) Q := ⟨r, rfl, h⟩
theorem ok_bd {α β : Type} {x : Option α} {f : α → Option β} {P : α → Prop} {Q : β → Prop} (h : Ok x P) (k : ∀ r, P r → Ok (f r) Q) : Ok (x.bind f) Q := by
  obtain ⟨r, e, p⟩ := h
  rw [e]; exact k r p
theorem ok_bq {α β : Type} {x : Option α} {f : α → Option β} {r : α} {Q : β → Prop} (h : x = some r) (k : Ok (f r) Q) : Ok (x.bind f) Q := by rw [h]; exact k
theorem ok_ck {α : Type} {x : Int} {y : Option α} {Q : α → Prop} (h : InR x) (k : Ok y Q) : Ok (ck x y) Q := by rw [ck_of h]; exact k
theorem ok_ix {α : Type} {x n : Int} {y : Option α} {Q : α → Prop} (h : 0 ≤ x ∧ x < n) (k : Ok y Q) : Ok (ix x n y) Q := by rw [ix_of h]; exact k
theorem ok_bk {α : Type} {x : Int} {y : Option α} {Q : α → Prop} (h : x = 0 ∨ x = 1) (k : Ok y Q) : Ok (bk x y) Q := by rw [bk_of h]; exact k
theorem ok_ite {α : Type} {c : Prop} [Decidable c] {a b : Option α} {Q : α → Prop} (ht : c → Ok a Q) (hf : ¬ c → Ok b Q) : Ok (if c then a else b) Q := by
  by_cases h : c
  · rw [if_pos h]; exact ht h
  · rw [if_neg h]; exact hf h
theorem ok_mono {α : Type} {x : Option α} {P Q : α → Prop} (h : Ok x P) (k : ∀ r, P r → Q r) : Ok x Q := by
  obtain ⟨r, e, p⟩ := h
  exact ⟨r, e, k r p⟩
theorem ok_eq {α : Type} {x : Option α} {r : α} (h : Ok x (fun y => y = r)) : x = some r := by
  obtain ⟨y, e, p⟩ := h
  rw [e, p]
theorem ok_of {α : Type} {x : Option α} {r : α} {Q : α → Prop} (h : x = some r) (q : Q r) : Ok x Q := ⟨r, h, q⟩
def LQ {σ ρ : Type} (I : σ → Prop) (μ : σ → Nat) (m : Nat) (Q : ρ → Prop) : σ ⊕ ρ → Prop
  | .inl z => I z ∧ μ z < m
  | .inr r => Q r
theorem ok_lp {σ ρ : Type} {body : σ → Option (σ ⊕ ρ)} {Q : ρ → Prop} (I : σ → Prop) (μ : σ → Nat) (st : ∀ z, I z → Ok (body z) (LQ I μ (μ z) Q)) : ∀ (n : Nat) (z : σ), I z → μ z < n → Ok (lp body n z) Q := by
  intro n
  induction n with
  | zero => intro z _ h; exact absurd h (Nat.not_lt_zero _)
  | succ n ih =>
    intro z hI hm
    obtain ⟨x, e, h⟩ := st z hI
    unfold lp
    rw [e]
    cases x with
    | inl z' => exact ih z' h.1 (Nat.lt_of_lt_of_le h.2 (Nat.lt_succ_iff.mp hm))
    | inr r => exact ⟨r, rfl, h⟩
/-- a loop whose measure is an Int -/
theorem ok_lpI {σ ρ : Type} {body : σ → Option (σ ⊕ ρ)} {Q : ρ → Prop} (I : σ → Prop) (μ : σ → Int) (st : ∀ z, I z → 0 ≤ μ z ∧ Ok (body z) (fun x => match x with
    | .inl z' => I z' ∧ μ z' < μ z
    | .inr r => Q r)) (n : Nat) (z : σ) (hI : I z) (hm : μ z < n) : Ok (lp body n z) Q := by
  refine ok_lp (fun z => I z ∧ 0 ≤ μ z) (fun z => (μ z).toNat) ?_ n z ⟨hI, (st z hI).1⟩ ?_
  · intro z h
    obtain ⟨h0, x, e, k⟩ := st z h.1
    refine ⟨x, e, ?_⟩
    cases x with
    | inl z' => exact ⟨⟨k.1, (st z' k.1).1⟩, by have := k.2; have := (st z' k.1).1; show (μ z').toNat < (μ z).toNat; omega⟩
    | inr r => exact k
  · have := (st z hI).1
    omega
theorem int_ind {P : Int → Prop} (h0 : P 0) (hs : ∀ i, 0 ≤ i → P i → P (i + 1)) : ∀ n, 0 ≤ n → P n := by
  intro n hn
  obtain ⟨k, rfl⟩ := Int.eq_ofNat_of_zero_le hn
  induction k with
  | zero => exact h0
  | succ k ih => exact hs k (by omega) (ih (by omega))
/-! sums -/
def smN (f : Int → Int) : Nat → Int
  | 0 => 0
  | n + 1 => smN f n + f n
def sm (f : Int → Int) (n : Int) : Int := smN f n.toNat
theorem sm_0 {f : Int → Int} {n : Int} (h : n ≤ 0) : sm f n = 0 := by
  unfold sm; rw [show n.toNat = 0 by omega]; rfl
theorem sm_s {f : Int → Int} {n : Int} (h : 0 ≤ n) : sm f (n + 1) = sm f n + f n := by
  unfold sm
  rw [show (n + 1).toNat = n.toNat + 1 by omega]
  show smN f n.toNat + f n.toNat = _
  rw [Int.toNat_of_nonneg h]
theorem sm_ind {P : Int → Prop} {n : Int} (h0 : P 0) (hs : ∀ i, 0 ≤ i → i < n → P i → P (i + 1)) (hn : 0 ≤ n) : P n := by
  have : ∀ k, 0 ≤ k → k ≤ n → P k := by
    intro k hk
    refine int_ind (P := fun k => k ≤ n → P k) (fun _ => h0) (fun i hi ih hl => hs i hi (by omega) (ih (by omega))) k hk
  exact this n hn (Int.le_refl _)
theorem sm_cg {f g : Int → Int} {n : Int} (h : ∀ i, 0 ≤ i → i < n → f i = g i) : sm f n = sm g n := by
  by_cases hn : 0 ≤ n
  · refine sm_ind (P := fun k => k ≤ n → sm f k = sm g k) (fun _ => by rw [sm_0 (Int.le_refl 0), sm_0 (Int.le_refl 0)]) (fun i hi hl ih _ => by rw [sm_s hi, sm_s hi, ih (by omega), h i hi hl]) hn (Int.le_refl _)
  · rw [sm_0 (by omega), sm_0 (by omega)]
theorem sm_add (f g : Int → Int) (n : Int) : sm (fun i => f i + g i) n = sm f n + sm g n := by
  by_cases hn : 0 ≤ n
  · refine int_ind (P := fun k => sm (fun i => f i + g i) k = sm f k + sm g k) (by simp [sm_0 (Int.le_refl 0)]) (fun i hi ih => by rw [sm_s hi, sm_s hi, sm_s hi, ih]; omega) n hn
  · rw [sm_0 (by omega), sm_0 (by omega), sm_0 (by omega)]; rfl
theorem sm_mul (c : Int) (f : Int → Int) (n : Int) : sm (fun i => c * f i) n = c * sm f n := by
  by_cases hn : 0 ≤ n
  · refine int_ind (P := fun k => sm (fun i => c * f i) k = c * sm f k) (by simp [sm_0 (Int.le_refl 0)]) (fun i hi ih => by rw [sm_s hi, sm_s hi, ih, Int.mul_add]) n hn
  · rw [sm_0 (by omega), sm_0 (by omega)]; simp
theorem sm_z (n : Int) : sm (fun _ => 0) n = 0 := by
  by_cases hn : 0 ≤ n
  · exact int_ind (P := fun k => sm (fun _ => 0) k = 0) (sm_0 (Int.le_refl 0)) (fun i hi ih => by rw [sm_s hi, ih]; rfl) n hn
  · exact sm_0 (by omega)
theorem sm_zero {f : Int → Int} {n : Int} (h : ∀ i, 0 ≤ i → i < n → f i = 0) : sm f n = 0 := (sm_cg h).trans (sm_z n)
theorem sm_sw (f : Int → Int → Int) (n m : Int) : sm (fun i => sm (fun j => f i j) m) n = sm (fun j => sm (fun i => f i j) n) m := by
  by_cases hn : 0 ≤ n
  · refine int_ind (P := fun k => sm (fun i => sm (fun j => f i j) m) k = sm (fun j => sm (fun i => f i j) k) m) ?_ ?_ n hn
    · rw [sm_0 (Int.le_refl 0)]
      exact (sm_zero (fun i _ _ => sm_0 (Int.le_refl 0))).symm
    · intro i hi ih
      rw [sm_s hi, ih, ← sm_add]
      exact sm_cg (fun j _ _ => (sm_s hi).symm)
  · rw [sm_0 (by omega)]
    exact (sm_zero (fun i _ _ => sm_0 (by omega))).symm
theorem sm_le {f g : Int → Int} {n : Int} (h : ∀ i, 0 ≤ i → i < n → f i ≤ g i) : sm f n ≤ sm g n := by
  by_cases hn : 0 ≤ n
  · refine sm_ind (P := fun k => k ≤ n → sm f k ≤ sm g k) (fun _ => by rw [sm_0 (Int.le_refl 0), sm_0 (Int.le_refl 0)]; exact Int.le_refl _) (fun i hi hl ih _ => by rw [sm_s hi, sm_s hi]; have := ih (by omega); have := h i hi hl; omega) hn (Int.le_refl _)
  · rw [sm_0 (by omega), sm_0 (by omega)]; exact Int.le_refl _
theorem sm_nn {f : Int → Int} {n : Int} (h : ∀ i, 0 ≤ i → i < n → 0 ≤ f i) : 0 ≤ sm f n := by
  have := sm_le (f := fun _ => 0) h
  rw [sm_z] at this
  exact this
/-- the sum of a function that is c is c times n -/
theorem sm_c (c : Int) {n : Int} (h : 0 ≤ n) : sm (fun _ => c) n = c * n :=
  int_ind (P := fun k => sm (fun _ => c) k = c * k) (by rw [sm_0 (Int.le_refl 0)]; simp) (fun i hi ih => by rw [sm_s hi, ih, Int.mul_add, Int.mul_one]) n h
/-- one place alone is not 0 -/
theorem sm_one {f : Int → Int} {n k : Int} (hk : 0 ≤ k ∧ k < n) (h : ∀ i, 0 ≤ i → i < n → i ≠ k → f i = 0) : sm f n = f k := by
  have hn : 0 ≤ n := by omega
  refine sm_ind (P := fun j => j ≤ n → (j ≤ k → sm f j = 0) ∧ (k < j → sm f j = f k)) ?_ ?_ hn (Int.le_refl _) |>.2 hk.2
  · intro _
    exact ⟨fun _ => sm_0 (Int.le_refl 0), fun h => absurd h (by omega)⟩
  · intro i hi hl ih _
    obtain ⟨a, b⟩ := ih (by omega)
    rw [sm_s hi]
    refine ⟨fun h2 => by rw [a (by omega), h i hi hl (by omega)]; rfl, fun h2 => ?_⟩
    by_cases e : i = k
    · subst e; rw [a (Int.le_refl _)]; omega
    · rw [b (by omega), h i hi hl e]; omega
/-- one place's share of a sum of what isn't negative -/
theorem sm_ge {f : Int → Int} {n k : Int} (hk : 0 ≤ k ∧ k < n) (h : ∀ i, 0 ≤ i → i < n → 0 ≤ f i) : f k ≤ sm f n := by
  have hn : 0 ≤ n := by omega
  refine sm_ind (P := fun j => j ≤ n → k < j → f k ≤ sm f j) (fun _ h => absurd h (by omega)) ?_ hn (Int.le_refl _) hk.2
  intro i hi hl ih _ hkj
  rw [sm_s hi]
  have h0 : 0 ≤ sm f i := sm_nn (fun j h1 h2 => h j h1 (by omega))
  have h1 := h i hi hl
  by_cases e : i = k
  · subst e; omega
  · have := ih (by omega) (by omega); omega
/-! indicators -/
noncomputable def ind (P : Prop) : Int := @ite Int P (Classical.propDecidable P) 1 0
theorem ind_t {P : Prop} (h : P) : ind P = 1 := if_pos h
theorem ind_f {P : Prop} (h : ¬ P) : ind P = 0 := if_neg h
theorem ind_i {P Q : Prop} (h : P ↔ Q) : ind P = ind Q := by rw [propext h]
theorem ind_01 (P : Prop) : ind P = 0 ∨ ind P = 1 := by
  by_cases h : P
  · exact Or.inr (ind_t h)
  · exact Or.inl (ind_f h)
theorem ind_nn (P : Prop) : 0 ≤ ind P := by rcases ind_01 P with h | h <;> omega
theorem ind_le (P : Prop) : ind P ≤ 1 := by rcases ind_01 P with h | h <;> omega
theorem ind_one {P : Prop} (h : ind P = 1) : P := by
  by_cases c : P
  · exact c
  · rw [ind_f c] at h; cases h
theorem ind_and (P Q : Prop) : ind (P ∧ Q) = ind P * ind Q := by
  by_cases p : P
  · rw [ind_t p, Int.one_mul]; exact ind_i ⟨fun h => h.2, fun h => ⟨p, h⟩⟩
  · rw [ind_f p, Int.zero_mul]; exact ind_f (fun h => p h.1)
/-- at most one place: the sum of the indicators is at most 1 -/
theorem sm_ind_le1 {P : Int → Prop} {n : Int} (h : ∀ i j, 0 ≤ i → i < n → 0 ≤ j → j < n → P i → P j → i = j) : sm (fun i => ind (P i)) n ≤ 1 := by
  by_cases hx : ∃ k, (0 ≤ k ∧ k < n) ∧ P k
  · obtain ⟨k, hk, hp⟩ := hx
    rw [sm_one hk (fun i h1 h2 ne => ind_f (fun hp2 => ne (h i k h1 h2 hk.1 hk.2 hp2 hp)))]
    exact ind_le _
  · rw [sm_zero (fun i h1 h2 => ind_f (fun hp => hx ⟨i, ⟨h1, h2⟩, hp⟩))]; decide
theorem sm_ind_one {P : Int → Prop} {n k : Int} (hk : 0 ≤ k ∧ k < n) (hp : P k) (h : ∀ i, 0 ≤ i → i < n → P i → i = k) : sm (fun i => ind (P i)) n = 1 := by
  rw [sm_one hk (fun i h1 h2 ne => ind_f (fun hp2 => ne (h i h1 h2 hp2)))]
  exact ind_t hp
/-- two choices of one in each class give one sum -/
theorem sm_reps {n : Int} {V E : Int → Int → Prop} {S1 S2 : Int → Prop} {f : Int → Int}
    (h12 : ∀ x, 0 ≤ x → x < n → S1 x → ∃ y, (0 ≤ y ∧ y < n) ∧ S2 y ∧ E x y ∧ ∀ y', 0 ≤ y' → y' < n → S2 y' → E x y' → y' = y)
    (h21 : ∀ y, 0 ≤ y → y < n → S2 y → ∃ x, (0 ≤ x ∧ x < n) ∧ S1 x ∧ E x y ∧ ∀ x', 0 ≤ x' → x' < n → S1 x' → E x' y → x' = x)
    (hf : ∀ x y, 0 ≤ x → x < n → 0 ≤ y → y < n → S1 x → S2 y → E x y → f x = f y) : sm (fun x => ind (S1 x) * f x) n = sm (fun y => ind (S2 y) * f y) n := by
  have e1 : ∀ x, 0 ≤ x → x < n → ind (S1 x) * f x = sm (fun y => ind (S1 x ∧ S2 y ∧ E x y) * f x) n := by
    intro x hx0 hxn
    by_cases hs : S1 x
    · obtain ⟨y, hy, hy2, hE, hu⟩ := h12 x hx0 hxn hs
      rw [sm_one hy (fun i h1 h2 ne => by rw [ind_f (fun q => ne (hu i h1 h2 q.2.1 q.2.2))]; simp), ind_t hs, ind_t ⟨hs, hy2, hE⟩]
    · rw [ind_f hs, sm_zero (fun i h1 h2 => by rw [ind_f (fun q => hs q.1)]; simp)]; simp
  have e2 : ∀ y, 0 ≤ y → y < n → ind (S2 y) * f y = sm (fun x => ind (S1 x ∧ S2 y ∧ E x y) * f x) n := by
    intro y hy0 hyn
    by_cases hs : S2 y
    · obtain ⟨x, hx, hx2, hE, hu⟩ := h21 y hy0 hyn hs
      rw [sm_one hx (fun i h1 h2 ne => by rw [ind_f (fun q => ne (hu i h1 h2 q.1 q.2.2))]; simp), ind_t hs, ind_t ⟨hx2, hs, hE⟩, hf x y hx.1 hx.2 hy0 hyn hx2 hs hE]
    · rw [ind_f hs, sm_zero (fun i h1 h2 => by rw [ind_f (fun q => hs q.2.1)]; simp)]; simp
  rw [sm_cg e1, sm_cg e2]
  exact sm_sw _ n n
/-- how many numbers stand above a and up to b -/
theorem sm_between {a b m : Int} (h0 : 0 ≤ a) (hab : a ≤ b) (hm : b < m) : sm (fun l => ind (a < l ∧ l ≤ b)) m = b - a := by
  have : ∀ k, 0 ≤ k → sm (fun l => ind (a < l ∧ l ≤ b)) k = (if k ≤ a + 1 then 0 else if k ≤ b + 1 then k - a - 1 else b - a) := by
    intro k hk
    refine int_ind (P := fun k => sm (fun l => ind (a < l ∧ l ≤ b)) k = (if k ≤ a + 1 then 0 else if k ≤ b + 1 then k - a - 1 else b - a)) ?_ ?_ k hk
    · rw [sm_0 (Int.le_refl 0), if_pos (by omega)]
    · intro i hi ih
      rw [sm_s hi, ih]
      by_cases c : a < i ∧ i ≤ b
      · rw [ind_t c]; repeat' split
        all_goals omega
      · rw [ind_f c]; repeat' split
        all_goals omega
  rw [this m (by omega)]
  repeat' split
  all_goals omega
