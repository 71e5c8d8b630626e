/-! sets as ints: bit by bit -/
def tb (s : Int) (k : Nat) : Bool := (iI s).toBitVec.getLsbD k
theorem tb_or (a b : Int) (k : Nat) : tb (bior a b) k = (tb a k || tb b k) := by
  unfold tb bior
  rw [iI_of]
  simp
theorem tb_0 (k : Nat) : tb 0 k = false := by
  unfold tb iI
  simp
theorem tb_ext {a b : Int} (ha : InR a) (hb : InR b) (h : ∀ k, k < 32 → tb a k = tb b k) : a = b := by
  have : iI a = iI b := by
    apply Int32.toBitVec.inj
    apply BitVec.eq_of_getLsbD_eq
    intro i hi
    exact h i hi
  exact (iI_eq ha hb).mp this
theorem inR_or (a b : Int) : InR (bior a b) := inR_of _
theorem tb_sh : ∀ w : Nat, w < 8 → ∀ k : Nat, k < 32 → tb (bishl 1 (w : Int)) k = decide (k = w) := by decide +kernel
theorem tb_shl {w : Int} (hw : 0 ≤ w ∧ w < 8) {k : Nat} (hk : k < 32) : tb (bishl 1 w) k = true ↔ (k : Int) = w := by
  obtain ⟨v, rfl⟩ := Int.eq_ofNat_of_zero_le hw.1
  rw [tb_sh v (by omega) k hk]
  simp
  omega
/-- the set of the words in which what A says of a place holds -/
def WSet (x : MT) (A : Int → Prop) (s : Int) : Prop := InR s ∧ ∀ k, k < 32 → (tb s k = true ↔ ∃ p, (0 ≤ p ∧ p < x.n) ∧ A p ∧ x.W p = k)
theorem WSet_un {x : MT} {A B : Int → Prop} {s t : Int} (h : WSet x A s) (k : WSet x B t) (e : ∀ p, 0 ≤ p → p < x.n → (A p → ∃ q, (0 ≤ q ∧ q < x.n) ∧ B q ∧ x.W q = x.W p) ∧ (B p → ∃ q, (0 ≤ q ∧ q < x.n) ∧ A q ∧ x.W q = x.W p)) : s = t := by
  refine tb_ext h.1 k.1 (fun i hi => ?_)
  have a := h.2 i hi
  have b := k.2 i hi
  have : tb s i = true ↔ tb t i = true := by
    rw [a, b]
    constructor
    · rintro ⟨p, hp, hA, hw⟩
      obtain ⟨q, hq, hB, hw2⟩ := (e p hp.1 hp.2).1 hA
      exact ⟨q, hq, hB, hw2.trans hw⟩
    · rintro ⟨p, hp, hA, hw⟩
      obtain ⟨q, hq, hB, hw2⟩ := (e p hp.1 hp.2).2 hA
      exact ⟨q, hq, hB, hw2.trans hw⟩
  cases hs : tb s i <;> cases ht : tb t i <;> simp_all
/-- one place more -/
theorem tb_add {x : MT} (hx : MOk x) {C D : Int → Prop} {s e : Int} (he : 0 ≤ e ∧ e < x.n) (h : ∀ k, k < 32 → (tb s k = true ↔ ∃ p, C p ∧ x.W p = k)) (hD : ∀ p, D p ↔ C p ∨ p = e) : ∀ k, k < 32 → (tb (bior s (bishl 1 (x.W e))) k = true ↔ ∃ p, D p ∧ x.W p = k) := by
  intro k hk
  have w := W_in hx e
  rw [tb_or, Bool.or_eq_true, h k hk, tb_shl ⟨w.1, by omega⟩ hk]
  constructor
  · rintro (⟨p, hp, hw⟩ | hw)
    · exact ⟨p, (hD p).mpr (Or.inl hp), hw⟩
    · exact ⟨e, (hD e).mpr (Or.inr rfl), hw.symm⟩
  · rintro ⟨p, hp, hw⟩
    rcases (hD p).mp hp with c | c
    · exact Or.inl ⟨p, c, hw⟩
    · exact Or.inr (by rw [← c]; exact hw.symm)
/-! the pattern's ends -/
/-- y stands at p -/
def At (x y : MT) (p : Int) : Prop := Sm x p y 0 y.n
/-- how many before a place -/
noncomputable def cA (x y : MT) (k : Int) : Int := sm (fun p => ind (At x y p)) k
theorem At_in {x y : MT} (hx : MOk x) (hy : 1 ≤ y.n) {p : Int} (h : At x y p) : 0 ≤ p ∧ p + y.n ≤ x.n ∧ x.W (p + y.n - 1) = x.W p ∧ x.P (p + y.n - 1) = x.P p + y.n - 1 := by
  have a := Sm_in hx hy h
  have b := hx.2.1 p a.1 a.2
  have c := h.1
  have d := hx.2.2.1 p (y.n - 1) a.1 a.2 (by omega) (by omega)
  rw [show p + (y.n - 1) = p + y.n - 1 by omega] at d
  exact ⟨a.1, by omega, d.1, by omega⟩
theorem cA_s {x y : MT} {k : Int} (h : 0 ≤ k) : cA x y (k + 1) = cA x y k + ind (At x y k) := sm_s h
theorem cA_0 {x y : MT} : cA x y 0 = 0 := sm_0 (Int.le_refl 0)
theorem cA_mono {x y : MT} {a b : Int} (h : 0 ≤ a) (hab : a ≤ b) : cA x y a ≤ cA x y b := by
  obtain ⟨d, rfl⟩ : ∃ d, b = a + d := ⟨b - a, by omega⟩
  refine int_ind (P := fun d => cA x y a ≤ cA x y (a + d)) (by rw [Int.add_zero]; exact Int.le_refl _) (fun i hi ih => ?_) d (by omega)
  rw [← Int.add_assoc, cA_s (by omega)]
  have := ind_nn (At x y (a + i))
  omega
theorem cA_un {x y : MT} {p q : Int} (hp : 0 ≤ p) (hq : 0 ≤ q) (a : At x y p) (b : At x y q) (e : cA x y p = cA x y q) : p = q := by
  have u := cA_s (x := x) (y := y) hp
  have v := cA_s (x := x) (y := y) hq
  rw [ind_t a] at u
  rw [ind_t b] at v
  by_cases c : p < q
  · have := cA_mono (x := x) (y := y) (a := p + 1) (b := q) (by omega) (by omega); omega
  · by_cases d : q < p
    · have := cA_mono (x := x) (y := y) (a := q + 1) (b := p) (by omega) (by omega); omega
    · omega
theorem cA_ends {x y : MT} (hx : MOk x) (hy : 1 ≤ y.n) (k : Int) : sm (fun e => ind (At x y (e - y.n + 1))) k = cA x y (k - (y.n - 1)) := by
  rw [sm_cg (f := fun e => ind (At x y (e - y.n + 1))) (g := fun e => ind (At x y (e - (y.n - 1)))) (fun e _ _ => by rw [show e - y.n + 1 = e - (y.n - 1) by omega])]
  exact sm_shift (g := fun p => ind (At x y p)) (by omega) (fun p q => ind_f (fun h => by have := At_in hx hy h; omega))
theorem cA_tail {x y : MT} (hx : MOk x) (hy : 1 ≤ y.n) : cA x y (x.n - (y.n - 1)) = cA x y x.n := by
  refine (sm_tail (by omega) (fun p a b _ => ind_f (fun h => ?_))).symm
  have := At_in hx hy h
  omega
section OCC
variable {n : Nat} {x y : MT} {t u : TxtS}
/-- component: how many ends -/
theorem e_endsOf (hn : 1000 ≤ n) (h : TX x t) (k : TX y u) (hy : 1 ≤ y.n) (hr : y.R 0 = y.n ∧ ∀ i, 0 ≤ i → i < y.n → y.P i = i) : p_X5_endsOf n t u = some (cA x y x.n) := by
  have hx := h.2
  have lx := TX_len h
  unfold p_X5_endsOf
  have : Ok (lp (p_X5_endsOf_b4 n t u) n (0, 0)) (fun r => r = cA x y x.n) := by
    refine ok_mono (P := fun r => r = sm (fun e => ind (At x y (e - y.n + 1))) x.n) ?_ (fun r q => by rw [q, cA_ends hx hy, cA_tail hx hy])
    refine ok_lpJ (fun z => (0 ≤ z.2 ∧ z.2 ≤ x.n) ∧ z.1 = sm (fun e => ind (At x y (e - y.n + 1))) z.2) (fun z => x.n - z.2) ?_ n _ ⟨by dsimp only; omega, by dsimp only; rw [sm_0 (Int.le_refl 0)]⟩ (by dsimp only; omega)
    rintro ⟨c, e⟩ ⟨he, hc⟩
    dsimp only at he hc ⊢
    refine ⟨by omega, ?_⟩
    unfold p_X5_endsOf_b4
    dsimp only
    rw [lx.1, ck_w (by omega), ck_w (by omega)]
    refine ok_ite (fun d => ?_) (fun d => ?_)
    · obtain ⟨q1, q2⟩ := e_hasEnd hn h k hy hr ⟨he.1, d⟩
      by_cases g : At x y (e - y.n + 1)
      · rw [q1 g, so_bd, ck_w (by omega), if_neg (by omega)]
        exact ok_so ⟨⟨by dsimp only; omega, by dsimp only; rw [sm_s he.1, ind_t g, hc]⟩, by dsimp only; omega⟩
      · rw [q2 g, so_bd, ck_w (by omega), if_pos rfl]
        exact ok_so ⟨⟨by dsimp only; omega, by dsimp only; rw [sm_s he.1, ind_f g, hc, Int.add_zero]⟩, by dsimp only; omega⟩
    · rw [show e = x.n by omega] at hc
      exact ok_so hc
  rw [ok_eq this, so_bd]
/-- component: the words -/
theorem e_wordsWith (hn : 1000 ≤ n) (h : TX x t) (k : TX y u) (hy : 1 ≤ y.n) (hr : y.R 0 = y.n ∧ ∀ i, 0 ≤ i → i < y.n → y.P i = i) : Ok (p_X5_wordsWith n t u) (WSet x (fun e => At x y (e - y.n + 1))) := by
  have hx := h.2
  have lx := TX_len h
  unfold p_X5_wordsWith
  refine ok_bd (P := WSet x (fun e => At x y (e - y.n + 1))) ?_ (fun r q => ok_so q)
  refine ok_lpJ (fun z => (0 ≤ z.2 ∧ z.2 ≤ x.n) ∧ InR z.1 ∧ ∀ k, k < 32 → (tb z.1 k = true ↔ ∃ p, ((0 ≤ p ∧ p < z.2) ∧ At x y (p - y.n + 1)) ∧ x.W p = k)) (fun z => x.n - z.2) ?_ n _ ?_ (by dsimp only; omega)
  · rintro ⟨c, e⟩ ⟨he, hc, hs⟩
    dsimp only at he hc hs ⊢
    refine ⟨by omega, ?_⟩
    unfold p_X5_wordsWith_b4
    dsimp only
    rw [lx.1, ck_w (by omega), ck_w (by omega)]
    refine ok_ite (fun d => ?_) (fun d => ?_)
    · obtain ⟨q1, q2⟩ := e_hasEnd hn h k hy hr ⟨he.1, d⟩
      by_cases g : At x y (e - y.n + 1)
      · rw [q1 g, so_bd, ck_w (by omega), if_neg (by omega), ix_of (by omega), (TX_at h ⟨he.1, d⟩).2.1]
        refine ok_so ⟨⟨by dsimp only; omega, inR_or _ _, ?_⟩, by dsimp only; omega⟩
        dsimp only
        refine tb_add hx ⟨he.1, d⟩ hs (fun p => ⟨fun w => ?_, fun w => ?_⟩)
        · by_cases e1 : p = e
          · exact Or.inr e1
          · exact Or.inl ⟨by omega, w.2⟩
        · rcases w with w | w
          · exact ⟨by omega, w.2⟩
          · subst w; exact ⟨by omega, g⟩
      · rw [q2 g, so_bd, ck_w (by omega), if_pos rfl]
        refine ok_so ⟨⟨by dsimp only; omega, hc, fun k hk => ?_⟩, by dsimp only; omega⟩
        dsimp only
        rw [hs k hk]
        refine ⟨fun ⟨p, w, v⟩ => ⟨p, ⟨by omega, w.2⟩, v⟩, fun ⟨p, w, v⟩ => ⟨p, ⟨?_, w.2⟩, v⟩⟩
        by_cases e1 : p = e
        · subst e1; exact absurd w.2 g
        · omega
    · rw [show e = x.n by omega] at hs
      refine ok_so ⟨hc, fun k hk => ?_⟩
      rw [hs k hk]
      exact ⟨fun ⟨p, w, v⟩ => ⟨p, w.1, w.2, v⟩, fun ⟨p, w, w2, v⟩ => ⟨p, ⟨w, w2⟩, v⟩⟩
  · refine ⟨by dsimp only; omega, by dsimp only; decide, fun k hk => ?_⟩
    dsimp only
    rw [tb_0]
    exact ⟨fun q => (by cases q), fun ⟨p, w, v⟩ => (by omega)⟩
/-- component: the k-th end -/
theorem e_endNumber (hn : 1000 ≤ n) (h : TX x t) (k : TX y u) (hy : 1 ≤ y.n) (hr : y.R 0 = y.n ∧ ∀ i, 0 ≤ i → i < y.n → y.P i = i) {v : Int} (hv : InR v) : ∃ r, p_X5_endNumber n t u v = some r ∧ ((∃ p, (0 ≤ p ∧ p + y.n ≤ x.n) ∧ At x y p ∧ cA x y p = v ∧ r = p + y.n - 1) ∨ (r = -6 ∧ ∀ p, 0 ≤ p → p < x.n → At x y p → cA x y p ≠ v)) := by
  have hx := h.2
  have lx := TX_len h
  unfold p_X5_endNumber
  have : Ok (lp (p_X5_endNumber_b5 n t u) n (v, 0)) (fun r => (∃ p, (0 ≤ p ∧ p + y.n ≤ x.n) ∧ At x y p ∧ cA x y p = v ∧ r = .inl (p + y.n - 1)) ∨ (r = .inr () ∧ ∀ p, 0 ≤ p → p < x.n → At x y p → cA x y p ≠ v)) := by
    refine ok_lpJ (fun z => (0 ≤ z.2 ∧ z.2 ≤ x.n) ∧ z.1 + cA x y (z.2 - (y.n - 1)) = v ∧ (0 ≤ z.1 ∨ (z.1 = v ∧ z.2 = 0))) (fun z => x.n - z.2) ?_ n _ ?_ (by dsimp only; omega)
    · rintro ⟨l, e⟩ ⟨he, hl, hz⟩
      dsimp only at he hl hz ⊢
      refine ⟨by omega, ?_⟩
      unfold p_X5_endNumber_b5
      dsimp only
      have c0 : 0 ≤ cA x y (e - (y.n - 1)) := sm_nn (fun i _ _ => ind_nn _)
      rw [lx.1, ck_w (by omega), ck_w (by omega)]
      refine ok_ite (fun d => ?_) (fun d => ?_)
      · rw [ck_w (by omega)]
        refine ok_ite (fun g => ?_) (fun g => ?_)
        · refine ok_so (Or.inr ⟨rfl, fun p a b _ => ?_⟩)
          have : 0 ≤ cA x y p := sm_nn (fun i _ _ => ind_nn _)
          omega
        · obtain ⟨q1, q2⟩ := e_hasEnd hn h k hy hr ⟨he.1, d⟩
          have step : cA x y (e + 1 - (y.n - 1)) = cA x y (e - (y.n - 1)) + ind (At x y (e - y.n + 1)) := by
            by_cases w : 0 ≤ e - (y.n - 1)
            · rw [show e + 1 - (y.n - 1) = e - (y.n - 1) + 1 by omega, cA_s w, show e - (y.n - 1) = e - y.n + 1 by omega]
            · rw [ind_f (fun s => by have := At_in hx hy s; omega)]
              unfold cA
              rw [sm_0 (by omega), sm_0 (by omega)]; rfl
          by_cases f : At x y (e - y.n + 1)
          · have hin := At_in hx hy f
            rw [q1 f, so_bd, ck_w (by omega), if_neg (by omega)]
            rw [ind_t f] at step
            refine ok_ite (fun w => ?_) (fun w => ?_)
            · exact ok_so (Or.inl ⟨e - y.n + 1, by omega, f, by rw [show e - y.n + 1 = e - (y.n - 1) by omega]; omega, by rw [show e - y.n + 1 + y.n - 1 = e by omega]⟩)
            · exact ok_so ⟨⟨by dsimp only; omega, by dsimp only; omega, Or.inl (by dsimp only; omega)⟩, by dsimp only; omega⟩
          · rw [q2 f, so_bd, ck_w (by omega), if_pos rfl]
            rw [ind_f f] at step
            exact ok_so ⟨⟨by dsimp only; omega, by dsimp only; omega, Or.inl (by dsimp only; omega)⟩, by dsimp only; omega⟩
      · rw [show e = x.n by omega, cA_tail hx hy] at hl
        refine ok_so (Or.inr ⟨rfl, fun p a b s => ?_⟩)
        have := cA_s (x := x) (y := y) a
        rw [ind_t s] at this
        have := cA_mono (x := x) (y := y) (a := p + 1) (b := x.n) (by omega) (by omega)
        have : 0 ≤ cA x y p := sm_nn (fun i _ _ => ind_nn _)
        omega
    · refine ⟨by dsimp only; omega, ?_, Or.inr ⟨rfl, rfl⟩⟩
      dsimp only
      unfold cA
      rw [sm_0 (by omega)]; omega
  obtain ⟨r, e1, e2⟩ := this
  rw [e1, so_bd]
  rcases e2 with ⟨p, a, b, c, rfl⟩ | ⟨rfl, q⟩
  · exact ⟨p + y.n - 1, rfl, Or.inl ⟨p, a, b, c, rfl⟩⟩
  · exact ⟨-6, rfl, Or.inr ⟨rfl, q⟩⟩
end OCC
