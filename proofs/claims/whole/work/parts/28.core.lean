/-! equal stretches of two texts -/
def Sm (x : MT) (p : Int) (y : MT) (q l : Int) : Prop := l ≤ x.R p ∧ l ≤ y.R q ∧ ∀ i, 0 ≤ i → i < l → x.L (p + i) = y.L (q + i)
theorem Sm_rf {x : MT} {p l : Int} (h : l ≤ x.R p) : Sm x p x p l := ⟨h, h, fun _ _ _ => rfl⟩
theorem Sm_sy {x y : MT} {p q l : Int} (h : Sm x p y q l) : Sm y q x p l := ⟨h.2.1, h.1, fun i a b => (h.2.2 i a b).symm⟩
theorem Sm_tr {x y z : MT} {p q r l : Int} (h : Sm x p y q l) (k : Sm y q z r l) : Sm x p z r l := ⟨h.1, k.2.1, fun i a b => (h.2.2 i a b).trans (k.2.2 i a b)⟩
theorem Sm_le {x y : MT} {p q l k : Int} (h : Sm x p y q l) (hk : k ≤ l) : Sm x p y q k := ⟨Int.le_trans hk h.1, Int.le_trans hk h.2.1, fun i a b => h.2.2 i a (Int.lt_of_lt_of_le b hk)⟩
theorem R_in {x : MT} (h : MOk x) {p : Int} (hp : 1 ≤ x.R p) : 0 ≤ p ∧ p < x.n := by
  by_cases c : 0 ≤ p ∧ p < x.n
  · exact c
  · rw [(h.2.2.2.2 p c).2.2.2] at hp; omega
theorem R_nn {x : MT} (h : MOk x) (p : Int) : 0 ≤ x.R p := by
  by_cases c : 0 ≤ p ∧ p < x.n
  · have := h.2.1 p c.1 c.2; omega
  · rw [(h.2.2.2.2 p c).2.2.2]; omega
theorem R_le {x : MT} (h : MOk x) (p : Int) : x.R p ≤ 60 := by
  by_cases c : 0 ≤ p ∧ p < x.n
  · have := h.2.1 p c.1 c.2; have := h.1; omega
  · rw [(h.2.2.2.2 p c).2.2.2]; omega
theorem P_in {x : MT} (h : MOk x) (p : Int) : 0 ≤ x.P p ∧ x.P p ≤ 59 := by
  by_cases c : 0 ≤ p ∧ p < x.n
  · have := h.2.1 p c.1 c.2; have := h.1; omega
  · rw [(h.2.2.2.2 p c).2.2.1]; omega
theorem L_in {x : MT} (h : MOk x) (p : Int) : 0 ≤ x.L p ∧ x.L p ≤ 7 := by
  by_cases c : 0 ≤ p ∧ p < x.n
  · have := h.2.1 p c.1 c.2; omega
  · rw [(h.2.2.2.2 p c).1]; omega
theorem W_in {x : MT} (h : MOk x) (p : Int) : 0 ≤ x.W p ∧ x.W p < 6 := by
  by_cases c : 0 ≤ p ∧ p < x.n
  · have := h.2.1 p c.1 c.2; omega
  · rw [(h.2.2.2.2 p c).2.1]; omega
theorem Sm_in {x y : MT} (h : MOk x) {p q l : Int} (hl : 1 ≤ l) (k : Sm x p y q l) : 0 ≤ p ∧ p < x.n := R_in h (by have := k.1; omega)
/-- without the first letter -/
theorem Sm_sh {x y : MT} (hx : MOk x) (hy : MOk y) {p q l : Int} (hl : 1 ≤ l) (h : Sm x p y q l) : Sm x (p + 1) y (q + 1) (l - 1) := by
  by_cases c : l = 1
  · subst c
    exact ⟨by have := R_nn hx (p + 1); omega, by have := R_nn hy (q + 1); omega, fun i a b => by omega⟩
  · have a := Sm_in hx hl h
    have b := Sm_in hy hl (Sm_sy h)
    have ha := hx.2.2.1 p 1 a.1 a.2 (by omega) (by have := h.1; omega)
    have hb := hy.2.2.1 q 1 b.1 b.2 (by omega) (by have := h.2.1; omega)
    refine ⟨by rw [ha.2.2]; have := h.1; omega, by rw [hb.2.2]; have := h.2.1; omega, fun i u v => ?_⟩
    have := h.2.2 (i + 1) (by omega) (by omega)
    rw [show p + (i + 1) = p + 1 + i by omega, show q + (i + 1) = q + 1 + i by omega] at this
    exact this
/-! how long the common beginning is -/
def lcN (a b : Row) : Nat → Int → Int → Int
  | 0, _, _ => 0
  | m + 1, p, q => if a p = b q then lcN a b m (p + 1) (q + 1) + 1 else 0
theorem lcN_iff (a b : Row) : ∀ (m : Nat) (p q l : Int), 0 ≤ l → (l ≤ lcN a b m p q ↔ l ≤ m ∧ ∀ i, 0 ≤ i → i < l → a (p + i) = b (q + i)) := by
  intro m
  induction m with
  | zero => intro p q l hl; show l ≤ 0 ↔ _; exact ⟨fun h => ⟨by omega, fun i u v => by omega⟩, fun h => by have := h.1; omega⟩
  | succ m ih =>
    intro p q l hl
    show l ≤ (if a p = b q then lcN a b m (p + 1) (q + 1) + 1 else 0) ↔ _
    by_cases c : l = 0
    · subst c
      constructor
      · intro _; exact ⟨by omega, fun i u v => by omega⟩
      · intro _
        split
        · have := (ih (p + 1) (q + 1) 0 (by omega)).mpr ⟨by omega, fun i u v => by omega⟩; omega
        · omega
    · by_cases e : a p = b q
      · rw [if_pos e]
        have := ih (p + 1) (q + 1) (l - 1) (by omega)
        constructor
        · intro h
          obtain ⟨g1, g2⟩ := this.mp (by omega)
          refine ⟨by omega, fun i u v => ?_⟩
          by_cases z : i = 0
          · subst z; rw [Int.add_zero, Int.add_zero]; exact e
          · have := g2 (i - 1) (by omega) (by omega)
            rw [show p + 1 + (i - 1) = p + i by omega, show q + 1 + (i - 1) = q + i by omega] at this
            exact this
        · intro ⟨g1, g2⟩
          have := this.mpr ⟨by omega, fun i u v => by
            have := g2 (i + 1) (by omega) (by omega)
            rw [show p + (i + 1) = p + 1 + i by omega, show q + (i + 1) = q + 1 + i by omega] at this
            exact this⟩
          omega
      · rw [if_neg e]
        constructor
        · intro h; omega
        · intro ⟨g1, g2⟩
          have := g2 0 (by omega) (by omega)
          rw [Int.add_zero, Int.add_zero] at this
          exact absurd this e
def lc (x : MT) (p : Int) (y : MT) (q : Int) : Int := lcN x.L y.L (min (x.R p) (y.R q)).toNat p q
theorem lc_iff {x y : MT} (hx : MOk x) (hy : MOk y) {p q l : Int} (hl : 0 ≤ l) : l ≤ lc x p y q ↔ Sm x p y q l := by
  unfold lc
  rw [lcN_iff _ _ _ _ _ _ hl]
  have := R_nn hx p
  have := R_nn hy q
  constructor
  · intro ⟨g1, g2⟩; exact ⟨by omega, by omega, g2⟩
  · intro ⟨g1, g2, g3⟩; exact ⟨by omega, g3⟩
theorem lc_nn {x y : MT} (hx : MOk x) (hy : MOk y) (p q : Int) : 0 ≤ lc x p y q := (lc_iff hx hy (Int.le_refl 0)).mpr ⟨R_nn hx p, R_nn hy q, fun i a b => by omega⟩
theorem lc_le {x y : MT} (hx : MOk x) (hy : MOk y) (p q : Int) : lc x p y q ≤ x.R p ∧ lc x p y q ≤ y.R q := by
  have := (lc_iff hx hy (lc_nn hx hy p q)).mp (Int.le_refl _)
  exact ⟨this.1, this.2.1⟩
theorem lc_Sm {x y : MT} (hx : MOk x) (hy : MOk y) (p q : Int) : Sm x p y q (lc x p y q) := (lc_iff hx hy (lc_nn hx hy p q)).mp (Int.le_refl _)
theorem lc_ne {x y : MT} (hx : MOk x) (hy : MOk y) {p q : Int} (h1 : lc x p y q < x.R p) (h2 : lc x p y q < y.R q) : x.L (p + lc x p y q) ≠ y.L (q + lc x p y q) := by
  intro e
  have h0 := lc_nn hx hy p q
  have hs := lc_Sm hx hy p q
  have : lc x p y q + 1 ≤ lc x p y q := (lc_iff hx hy (by omega)).mpr ⟨by omega, by omega, fun i a b => by
    by_cases c : i = lc x p y q
    · rw [c]; exact e
    · exact hs.2.2 i a (by omega)⟩
  omega
theorem lc_un {x y : MT} (hx : MOk x) (hy : MOk y) {p q k : Int} (h0 : 0 ≤ k) (h : Sm x p y q k) (hd : k = x.R p ∨ k = y.R q ∨ x.L (p + k) ≠ y.L (q + k)) : lc x p y q = k := by
  have h1 := (lc_iff hx hy h0).mpr h
  have h2 := lc_le hx hy p q
  by_cases c : lc x p y q = k
  · exact c
  · have h3 : Sm x p y q (k + 1) := (lc_iff hx hy (by omega)).mp (by omega)
    rcases hd with d | d | d
    · have := h3.1; omega
    · have := h3.2.1; omega
    · exact absurd (h3.2.2 k h0 (by omega)) d
theorem lc_sy {x y : MT} (hx : MOk x) (hy : MOk y) (p q : Int) : lc x p y q = lc y q x p := by
  have h1 := lc_nn hx hy p q
  have h2 := lc_nn hy hx q p
  have a := (lc_iff hy hx h1).mpr (Sm_sy (lc_Sm hx hy p q))
  have b := (lc_iff hx hy h2).mpr (Sm_sy (lc_Sm hy hx q p))
  omega
/-! how long the common end is -/
def csN (a b : Row) : Nat → Int → Int → Int
  | 0, _, _ => 0
  | m + 1, p, q => if a p = b q then csN a b m (p - 1) (q - 1) + 1 else 0
theorem csN_iff (a b : Row) : ∀ (m : Nat) (p q l : Int), 0 ≤ l → (l ≤ csN a b m p q ↔ l ≤ m ∧ ∀ i, 0 ≤ i → i < l → a (p - i) = b (q - i)) := by
  intro m
  induction m with
  | zero => intro p q l hl; show l ≤ 0 ↔ _; exact ⟨fun h => ⟨by omega, fun i u v => by omega⟩, fun h => by have := h.1; omega⟩
  | succ m ih =>
    intro p q l hl
    show l ≤ (if a p = b q then csN a b m (p - 1) (q - 1) + 1 else 0) ↔ _
    by_cases c : l = 0
    · subst c
      constructor
      · intro _; exact ⟨by omega, fun i u v => by omega⟩
      · intro _
        split
        · have := (ih (p - 1) (q - 1) 0 (by omega)).mpr ⟨by omega, fun i u v => by omega⟩; omega
        · omega
    · by_cases e : a p = b q
      · rw [if_pos e]
        have := ih (p - 1) (q - 1) (l - 1) (by omega)
        constructor
        · intro h
          obtain ⟨g1, g2⟩ := this.mp (by omega)
          refine ⟨by omega, fun i u v => ?_⟩
          by_cases z : i = 0
          · subst z; rw [Int.sub_zero, Int.sub_zero]; exact e
          · have := g2 (i - 1) (by omega) (by omega)
            rw [show p - 1 - (i - 1) = p - i by omega, show q - 1 - (i - 1) = q - i by omega] at this
            exact this
        · intro ⟨g1, g2⟩
          have := this.mpr ⟨by omega, fun i u v => by
            have := g2 (i + 1) (by omega) (by omega)
            rw [show p - (i + 1) = p - 1 - i by omega, show q - (i + 1) = q - 1 - i by omega] at this
            exact this⟩
          omega
      · rw [if_neg e]
        constructor
        · intro h; omega
        · intro ⟨g1, g2⟩
          have := g2 0 (by omega) (by omega)
          rw [Int.sub_zero, Int.sub_zero] at this
          exact absurd this e
def cs (x : MT) (p : Int) (y : MT) (q : Int) : Int := csN x.L y.L (min (x.P p) (y.P q) + 1).toNat p q
theorem cs_iff0 {x y : MT} (hx : MOk x) (hy : MOk y) {p q l : Int} (hl : 0 ≤ l) : l ≤ cs x p y q ↔ (l ≤ x.P p + 1 ∧ l ≤ y.P q + 1 ∧ ∀ i, 0 ≤ i → i < l → x.L (p - i) = y.L (q - i)) := by
  unfold cs
  rw [csN_iff _ _ _ _ _ _ hl]
  have := P_in hx p
  have := P_in hy q
  constructor
  · intro ⟨g1, g2⟩; exact ⟨by omega, by omega, g2⟩
  · intro ⟨g1, g2, g3⟩; exact ⟨by omega, g3⟩
theorem cs_nn {x y : MT} (hx : MOk x) (hy : MOk y) (p q : Int) : 0 ≤ cs x p y q := (cs_iff0 hx hy (Int.le_refl 0)).mpr ⟨by have := P_in hx p; omega, by have := P_in hy q; omega, fun i a b => by omega⟩
theorem cs_le {x y : MT} (hx : MOk x) (hy : MOk y) (p q : Int) : cs x p y q ≤ x.P p + 1 ∧ cs x p y q ≤ y.P q + 1 := by
  have := (cs_iff0 hx hy (cs_nn hx hy p q)).mp (Int.le_refl _)
  exact ⟨this.1, this.2.1⟩
/-- a common end is an equal stretch -/
theorem cs_iff {x y : MT} (hx : MOk x) (hy : MOk y) {e d l : Int} (he : 0 ≤ e ∧ e < x.n) (hd : 0 ≤ d ∧ d < y.n) (hl : 1 ≤ l) : l ≤ cs x e y d ↔ Sm x (e - l + 1) y (d - l + 1) l := by
  rw [cs_iff0 hx hy (by omega)]
  constructor
  · intro ⟨g1, g2, g3⟩
    have a := hx.2.2.2.1 e (l - 1) he.1 he.2 (by omega) (by omega)
    have b := hy.2.2.2.1 d (l - 1) hd.1 hd.2 (by omega) (by omega)
    have c := hx.2.1 e he.1 he.2
    have f := hy.2.1 d hd.1 hd.2
    rw [show e - (l - 1) = e - l + 1 by omega] at a
    rw [show d - (l - 1) = d - l + 1 by omega] at b
    refine ⟨by omega, by omega, fun i u v => ?_⟩
    have := g3 (l - 1 - i) (by omega) (by omega)
    rw [show e - (l - 1 - i) = e - l + 1 + i by omega, show d - (l - 1 - i) = d - l + 1 + i by omega] at this
    exact this
  · intro h
    obtain ⟨g1, g2, g3⟩ := id h
    have u := Sm_in hx hl h
    have v := Sm_in hy hl (Sm_sy h)
    have a := hx.2.2.1 (e - l + 1) (l - 1) u.1 u.2 (by omega) (by omega)
    have b := hy.2.2.1 (d - l + 1) (l - 1) v.1 v.2 (by omega) (by omega)
    rw [show e - l + 1 + (l - 1) = e by omega] at a
    rw [show d - l + 1 + (l - 1) = d by omega] at b
    have c := hx.2.1 (e - l + 1) u.1 u.2
    have f := hy.2.1 (d - l + 1) v.1 v.2
    refine ⟨by omega, by omega, fun i w z => ?_⟩
    have := g3 (l - 1 - i) (by omega) (by omega)
    rw [show e - l + 1 + (l - 1 - i) = e - i by omega, show d - l + 1 + (l - 1 - i) = d - i by omega] at this
    exact this
/-- letter by letter -/
theorem cs_step {x y : MT} (hx : MOk x) (hy : MOk y) {e d : Int} (he : 0 ≤ e ∧ e < x.n) (hd : 0 ≤ d ∧ d < y.n) : cs x e y d = if x.L e = y.L d then (if 0 < x.P e ∧ 0 < y.P d then cs x (e - 1) y (d - 1) + 1 else 1) else 0 := by
  unfold cs
  have a := P_in hx e
  have b := P_in hy d
  rw [show (min (x.P e) (y.P d) + 1).toNat = (min (x.P e) (y.P d)).toNat + 1 by omega]
  show (if x.L e = y.L d then csN x.L y.L (min (x.P e) (y.P d)).toNat (e - 1) (d - 1) + 1 else 0) = _
  by_cases c : x.L e = y.L d
  · rw [if_pos c, if_pos c]
    by_cases g : 0 < x.P e ∧ 0 < y.P d
    · rw [if_pos g]
      have p1 := (hx.2.2.2.1 e 1 he.1 he.2 (by omega) (by omega)).2.1
      have p2 := (hy.2.2.2.1 d 1 hd.1 hd.2 (by omega) (by omega)).2.1
      rw [p1, p2, show (min (x.P e - 1) (y.P d - 1) + 1).toNat = (min (x.P e) (y.P d)).toNat by omega]
    · rw [if_neg g, show (min (x.P e) (y.P d)).toNat = 0 by omega]
      rfl
  · rw [if_neg c, if_neg c]
