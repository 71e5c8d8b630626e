/-! the reference's text -/
def MX (c : Int) (x : MT) (m : MtS) : Prop := MOk x ∧ m.many c = x.n ∧ ∀ p, 0 ≤ p → p < x.n → m.text (60 * c + p) = x.L p ∧ m.wordOf (60 * c + p) = x.W p ∧ m.stop (6 * c + x.W p) - p = x.R p ∧ p - m.start (6 * c + x.W p) = x.P p
theorem MX_of {c : Int} {b : BT} {m : MtS} (hb : BOk b) (h : MLy c b m) : MX c (nb b) m := by
  obtain ⟨h1, h2, h3, h4⟩ := h
  refine ⟨nb_ok hb, h1, fun p a q => ?_⟩
  have q : p < b.len := q
  have g := hb.2.2.2.2.2 p a q
  have w := h3 p a q
  have v := h4 (b.words p) g.2.2.1 g.2.2.2.1
  show m.text (60 * c + p) = mk b.len b.letters p ∧ m.wordOf (60 * c + p) = mk b.len b.words p ∧ m.stop (6 * c + mk b.len b.words p) - p = mk b.len (fun p => wend b (b.words p) - p) p ∧ p - m.start (6 * c + mk b.len b.words p) = mk b.len (fun p => p - b.starts (b.words p)) p
  rw [mk_in _ ⟨a, q⟩, mk_in _ ⟨a, q⟩, mk_in _ ⟨a, q⟩, mk_in _ ⟨a, q⟩, v.1, v.2]
  exact ⟨w.1, w.2, rfl, rfl⟩
theorem MX_same {x : MT} {m m' : MtS} (h : MX 0 x m) (k : MSame 1 m m') : MX 0 x m' := by
  obtain ⟨h1, h2, h3⟩ := h
  refine ⟨h1, by rw [(k.1 0 (by decide)).1]; exact h2, fun p a q => ?_⟩
  have g := h3 p a q
  have w := k.2.1 (60 * 0 + p) (Or.inl (by have := h1.1; omega))
  have v := k.2.2 (6 * 0 + x.W p) (Or.inl (by have := W_in h1 p; omega))
  rw [w.1, w.2, v.1, v.2]
  exact g
theorem e_rest {c : Int} (hc : c = 0 ∨ c = 1) {x : MT} {m : MtS} (h : MX c x m) {p : Int} (hp : 0 ≤ p ∧ p < x.n) : p_X7_rest m c p = some (x.R p) := by
  obtain ⟨h1, h2, h3⟩ := h
  have g := h3 p hp.1 hp.2
  have w := W_in h1 p
  have hn := h1.1
  unfold p_X7_rest
  rw [ix_of (by omega), g.2.1, ix_of (by omega), g.2.2.1]
theorem e_mletterAt {x : MT} {m : MtS} (h : MX 0 x m) {p : Int} (hp : 0 ≤ p ∧ p < x.n) : p_X7_letterAt m p = some (x.L p) := by
  obtain ⟨h1, h2, h3⟩ := h
  have g := h3 p hp.1 hp.2
  have hn := h1.1
  unfold p_X7_letterAt
  rw [show 60 * (0 : Int) + p = p by omega] at g
  rw [ix_of (by omega), g.1]
theorem e_mwordOf {x : MT} {m : MtS} (h : MX 0 x m) {p : Int} (hp : 0 ≤ p ∧ p < x.n) : m.wordOf p = x.W p := by
  have g := (h.2.2 p hp.1 hp.2).2.1
  rw [show 60 * (0 : Int) + p = p by omega] at g
  exact g
theorem e_asEnd {x : MT} {m : MtS} (h : MX 0 x m) {p : Int} (hp : 0 ≤ p ∧ p < x.n) : p_X7_asEnd m p = some (100 * x.W p + x.P p) := by
  obtain ⟨h1, h2, h3⟩ := id h
  have g := h3 p hp.1 hp.2
  have w := W_in h1 p
  have hn := h1.1
  unfold p_X7_asEnd
  rw [e_mwordOf h hp, ix_of (by omega), ix_of (by omega)]
  rw [show 6 * (0 : Int) + x.W p = x.W p by omega] at g
  rw [show 100 * x.W p + p - m.start (x.W p) = 100 * x.W p + x.P p by omega]
theorem e_alike {n : Nat} (hn : 1000 ≤ n) {c d : Int} (hc : c = 0 ∨ c = 1) (hd : d = 0 ∨ d = 1) {x y : MT} {m : MtS} (h : MX c x m) (k : MX d y m) {p q : Int} (hp : 0 ≤ p ∧ p < x.n) (hq : 0 ≤ q ∧ q < y.n) : p_X7_alike n m c p d q = some (lc x p y q) := by
  have hx := h.1
  have hy := k.1
  have a1 := hx.2.1 p hp.1 hp.2
  have a2 := hy.2.1 q hq.1 hq.2
  have n1 := hx.1
  have n2 := hy.1
  have key : ∀ M, M = min (x.R p) (y.R q) → p_X7_alike_j32 n m c p d q M = some (lc x p y q) := by
    intro M hM
    unfold p_X7_alike_j32
    have : Ok (lp (p_X7_alike_b37 n m c p d q M) n 0) (fun r => r = lc x p y q) := by
      refine ok_lpJ (fun z => (0 ≤ z ∧ z ≤ M) ∧ ∀ i, 0 ≤ i → i < z → x.L (p + i) = y.L (q + i)) (fun z => M - z) ?_ n 0 ⟨by omega, fun i a b => by omega⟩ (by omega)
      rintro z ⟨hz, hs⟩
      refine ⟨by omega, ?_⟩
      unfold p_X7_alike_b37
      rw [ck_w (by omega), ck_w (by omega)]
      refine ok_ite (fun c1 => ?_) (fun c1 => ?_)
      · have b1 := (h.2.2 (p + z) (by omega) (by omega)).1
        have b2 := (k.2.2 (q + z) (by omega) (by omega)).1
        have l1 := L_in hx (p + z)
        have l2 := L_in hy (q + z)
        rw [ix_of (by omega), ix_of (by omega), show 60 * c + p + z = 60 * c + (p + z) by omega, show 60 * d + q + z = 60 * d + (q + z) by omega, b1, b2, ck_w (by omega), ck_w (by omega)]
        refine ok_ite (fun e => ?_) (fun e => ?_)
        · refine ok_so ⟨⟨by omega, fun i a b => ?_⟩, by dsimp only; omega⟩
          by_cases g : i = z
          · rw [g]; exact e
          · exact hs i a (by omega)
        · refine ok_so ?_
          show z = _
          exact (lc_un hx hy hz.1 ⟨by omega, by omega, hs⟩ (Or.inr (Or.inr e))).symm
      · refine ok_so ?_
        show z = _
        refine (lc_un hx hy (by omega) ⟨by omega, by omega, hs⟩ ?_).symm
        by_cases e : x.R p ≤ y.R q
        · exact Or.inl (by omega)
        · exact Or.inr (Or.inl (by omega))
    rw [ok_eq this, so_bd]
  unfold p_X7_alike
  rw [e_rest hc h hp, so_bd, e_rest hd k hq, so_bd, so_bd, so_bd, ck_w (by omega), ck_w (by omega)]
  by_cases g : x.R p < y.R q
  · rw [if_pos g, key _ (by omega)]
  · rw [if_neg g, key _ (by omega)]
theorem e_isSame {n : Nat} (hn : 1000 ≤ n) {x : MT} {m : MtS} (h : MX 0 x m) {p q l : Int} (hp : 0 ≤ p ∧ p < x.n) (hq : 0 ≤ q ∧ q < x.n) (hl : 0 ≤ l ∧ l ≤ 1000) : (Sm x p x q l → p_X7_isSame n m p q l = some 1) ∧ (¬ Sm x p x q l → p_X7_isSame n m p q l = some 0) := by
  have hx := h.1
  have a := lc_nn hx hx p q
  have b := lc_le hx hx p q
  have r := R_le hx p
  have i := lc_iff hx hx (p := p) (q := q) hl.1
  unfold p_X7_isSame
  rw [e_alike hn (Or.inl rfl) (Or.inl rfl) h h hp hq, so_bd, ck_w (by omega), ck_w (by omega)]
  constructor
  · intro s; have := i.mpr s; rw [if_neg (by omega)]
  · intro s
    have : ¬ l ≤ lc x p x q := fun q => s (i.mp q)
    rw [if_pos (by omega)]
/-! the order of what stands behind the places -/
def Kx (x : MT) (p i : Int) : Int := if i < x.R p then x.L (p + i) else -1
theorem Kx_in {x : MT} {p i : Int} (h : i < x.R p) : Kx x p i = x.L (p + i) := if_pos h
theorem Kx_out {x : MT} {p i : Int} (h : ¬ i < x.R p) : Kx x p i = -1 := if_neg h
theorem Kx_ge {x : MT} (hx : MOk x) (p i : Int) : -1 ≤ Kx x p i ∧ (0 ≤ Kx x p i ↔ i < x.R p) := by
  by_cases c : i < x.R p
  · rw [Kx_in c]; have := L_in hx (p + i); omega
  · rw [Kx_out c]; omega
theorem Bf_iff {x : MT} (hx : MOk x) {p q : Int} : Bf x p q ↔ ∃ k, 0 ≤ k ∧ (∀ i, 0 ≤ i → i < k → Kx x p i = Kx x q i) ∧ Kx x p k < Kx x q k := by
  have l0 := lc_nn hx hx p q
  have l1 := lc_le hx hx p q
  have l2 := lc_Sm hx hx p q
  constructor
  · intro h
    refine ⟨lc x p x q, l0, fun i a b => ?_, ?_⟩
    · rw [Kx_in (by omega), Kx_in (by omega)]; exact l2.2.2 i a b
    · rcases h with h | h
      · rw [Kx_out (by omega), Kx_in (by omega)]; have := L_in hx (q + lc x p x q); omega
      · rw [Kx_in h.1, Kx_in h.2.1]; exact h.2.2
  · rintro ⟨k, h0, h1, h2⟩
    have a := Kx_ge hx p k
    have b := Kx_ge hx q k
    have kq : k < x.R q := by omega
    have sm : ∀ i, 0 ≤ i → i < k → i < x.R p ∧ x.L (p + i) = x.L (q + i) := by
      intro i u v
      have e := h1 i u v
      have c := Kx_ge hx p i
      have d := Kx_ge hx q i
      have hp : i < x.R p := by omega
      rw [Kx_in hp, Kx_in (by omega)] at e
      exact ⟨hp, e⟩
    have kp : k ≤ x.R p := by
      by_cases c : k ≤ 0
      · have := R_nn hx p; omega
      · have := (sm (k - 1) (by omega) (by omega)).1; omega
    have hs : Sm x p x q k := ⟨kp, by omega, fun i u v => (sm i u v).2⟩
    by_cases c : k < x.R p
    · rw [Kx_in c, Kx_in kq] at h2
      have e := lc_un hx hx h0 hs (Or.inr (Or.inr (by omega)))
      exact Or.inr ⟨by omega, by omega, by rw [e]; exact h2⟩
    · have e := lc_un hx hx h0 hs (Or.inl (by omega))
      exact Or.inl ⟨by omega, by omega⟩
theorem Bf_ir {x : MT} (hx : MOk x) (p : Int) : ¬ Bf x p p := by
  rw [Bf_iff hx]
  rintro ⟨k, -, -, h⟩
  omega
theorem Bf_as {x : MT} (hx : MOk x) {p q : Int} (h : Bf x p q) : ¬ Bf x q p := by
  rw [Bf_iff hx] at h ⊢
  obtain ⟨k, a, b, c⟩ := h
  rintro ⟨j, d, e, f⟩
  by_cases g : k < j
  · have := e k a g; omega
  · by_cases g2 : j < k
    · have := b j d g2; omega
    · have : j = k := by omega
      subst this; omega
/-- the whole rests are equal -/
def Eqs (x : MT) (p q : Int) : Prop := x.R p = x.R q ∧ lc x p x q = x.R p
theorem tri {x : MT} (hx : MOk x) (p q : Int) : Bf x p q ∨ Eqs x p q ∨ Bf x q p := by
  have l1 := lc_le hx hx p q
  have sy := lc_sy hx hx p q
  by_cases a : lc x p x q = x.R p
  · by_cases b : x.R p = x.R q
    · exact Or.inr (Or.inl ⟨b, a⟩)
    · exact Or.inl (Or.inl ⟨a, by omega⟩)
  · by_cases b : lc x p x q = x.R q
    · exact Or.inr (Or.inr (Or.inl ⟨by omega, by omega⟩))
    · have ne := lc_ne hx hx (p := p) (q := q) (by omega) (by omega)
      by_cases c : x.L (p + lc x p x q) < x.L (q + lc x p x q)
      · exact Or.inl (Or.inr ⟨by omega, by omega, c⟩)
      · exact Or.inr (Or.inr (Or.inr ⟨by omega, by omega, by rw [← sy]; omega⟩))
theorem Eqs_K {x : MT} (hx : MOk x) {p q : Int} (h : Eqs x p q) : ∀ i, 0 ≤ i → Kx x p i = Kx x q i := by
  intro i hi
  have s := lc_Sm hx hx p q
  by_cases c : i < x.R p
  · rw [Kx_in c, Kx_in (by have := h.1; omega)]; exact s.2.2 i hi (by have := h.2; omega)
  · rw [Kx_out c, Kx_out (by have := h.1; omega)]
theorem Eqs_of {x : MT} (hx : MOk x) {p q : Int} (h1 : ¬ Bf x p q) (h2 : ¬ Bf x q p) : Eqs x p q := by
  rcases tri hx p q with h | h | h
  · exact absurd h h1
  · exact h
  · exact absurd h h2
theorem Bf_tr {x : MT} (hx : MOk x) {p q r : Int} (h : Bf x p q) (g : ¬ Bf x r q) : Bf x p r := by
  rcases tri hx q r with k | k | k
  · rw [Bf_iff hx] at h k ⊢
    obtain ⟨a, a1, a2, a3⟩ := h
    obtain ⟨b, b1, b2, b3⟩ := k
    by_cases c : a < b
    · exact ⟨a, a1, fun i u v => (a2 i u v).trans (b2 i u (by omega)), by have := b2 a a1 c; omega⟩
    · by_cases d : b < a
      · exact ⟨b, b1, fun i u v => (a2 i u (by omega)).trans (b2 i u v), by have := a2 b b1 d; omega⟩
      · have : a = b := by omega
        subst this
        exact ⟨a, a1, fun i u v => (a2 i u v).trans (b2 i u v), by omega⟩
  · rw [Bf_iff hx] at h ⊢
    obtain ⟨a, a1, a2, a3⟩ := h
    have e := Eqs_K hx k
    exact ⟨a, a1, fun i u v => (a2 i u v).trans (e i u), by rw [← e a a1]; exact a3⟩
  · exact absurd k g
theorem Bf_tl {x : MT} (hx : MOk x) {p q r : Int} (g : ¬ Bf x q p) (h : Bf x q r) : Bf x p r := by
  rcases tri hx p q with k | k | k
  · exact Bf_tr hx k (Bf_as hx h)
  · rw [Bf_iff hx] at h ⊢
    obtain ⟨a, a1, a2, a3⟩ := h
    have e := Eqs_K hx k
    exact ⟨a, a1, fun i u v => (e i u).trans (a2 i u v), by rw [e a a1]; exact a3⟩
  · exact absurd k g
theorem Le_tr {x : MT} (hx : MOk x) {p q r : Int} (h1 : ¬ Bf x q p) (h2 : ¬ Bf x r q) : ¬ Bf x r p := fun h => h2 (Bf_tr hx h h1)
/-- what stands between two that share a beginning shares it -/
theorem between {x : MT} (hx : MOk x) {a b c l : Int} (h1 : ¬ Bf x b a) (h2 : ¬ Bf x c b) (h : Sm x a x c l) : Sm x a x b l := by
  have key : ∀ k, 0 ≤ k → k ≤ l → ∀ i, 0 ≤ i → i < k → Kx x a i = Kx x b i := by
    intro k hk
    refine int_ind (P := fun k => k ≤ l → ∀ i, 0 ≤ i → i < k → Kx x a i = Kx x b i) (fun _ i u v => by omega) (fun k hk ih hl i u v => ?_) k hk
    have ih := ih (by omega)
    by_cases e : i = k
    · subst e
      have hac : ∀ j, 0 ≤ j → j ≤ i → Kx x a j = Kx x c j := by
        intro j u v
        have := h.1
        have := h.2.1
        rw [Kx_in (by omega), Kx_in (by omega)]
        exact h.2.2 j u (by omega)
      by_cases g1 : Kx x b i < Kx x a i
      · exact absurd ((Bf_iff hx).mpr ⟨i, u, fun j p q => (ih j p q).symm, g1⟩) h1
      · by_cases g2 : Kx x c i < Kx x b i
        · exact absurd ((Bf_iff hx).mpr ⟨i, u, fun j p q => (hac j p (by omega)).symm.trans (ih j p q), g2⟩) h2
        · have := hac i u (Int.le_refl _); omega
    · exact ih i u (by omega)
  by_cases hl : l ≤ 0
  · exact ⟨by have := R_nn hx a; omega, by have := R_nn hx b; omega, fun i u v => by omega⟩
  · have hb : ∀ i, 0 ≤ i → i < l → i < x.R b ∧ x.L (a + i) = x.L (b + i) := by
      intro i u v
      have e := key l (by omega) (Int.le_refl _) i u v
      have := h.1
      have ka := Kx_ge hx a i
      have kb := Kx_ge hx b i
      have hb : i < x.R b := by omega
      rw [Kx_in (by omega), Kx_in hb] at e
      exact ⟨hb, e⟩
    exact ⟨h.1, by have := (hb (l - 1) (by omega) (by omega)).1; omega, fun i u v => (hb i u v).2⟩
