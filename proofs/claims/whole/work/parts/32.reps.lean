/-! distinct factors, counted once each -/
/-- the factor of l letters at p, where it stands first -/
def Fst (x : MT) (p l : Int) : Prop := (1 ≤ l ∧ l ≤ x.R p) ∧ ∀ q, 0 ≤ q → q < p → ¬ Sm x q x p l
/-- the sum of what is said of each distinct factor -/
noncomputable def FS (x : MT) (g : Int → Int → Int) : Int := sm (fun l => sm (fun p => ind (Fst x p l) * g p l) x.n) 61
/-- what is said is the same wherever the factor stands -/
def Inv (x : MT) (g : Int → Int → Int) : Prop := ∀ p q l, 1 ≤ l → Sm x p x q l → g p l = g q l
theorem least {P : Int → Prop} : ∀ b : Int, 0 ≤ b → P b → ∃ a, (0 ≤ a ∧ a ≤ b) ∧ P a ∧ ∀ i, 0 ≤ i → i < a → ¬ P i := by
  have key : ∀ k : Nat, ∀ b : Int, 0 ≤ b → b < k → P b → ∃ a, (0 ≤ a ∧ a ≤ b) ∧ P a ∧ ∀ i, 0 ≤ i → i < a → ¬ P i := by
    intro k
    induction k with
    | zero => intro b h1 h2; omega
    | succ k ih =>
      intro b h1 h2 hb
      by_cases c : ∃ i, (0 ≤ i ∧ i < b) ∧ P i
      · obtain ⟨i, hi, hP⟩ := c
        obtain ⟨a, a1, a2, a3⟩ := ih i hi.1 (by omega) hP
        exact ⟨a, by omega, a2, a3⟩
      · exact ⟨b, by omega, hb, fun i u v q => c ⟨i, ⟨u, v⟩, q⟩⟩
  intro b h hb
  exact key (b.toNat + 1) b h (by omega) hb
/-- every factor has a first place -/
theorem fst_ex {x : MT} (hx : MOk x) {p l : Int} (hl : 1 ≤ l ∧ l ≤ x.R p) : ∃ q, (0 ≤ q ∧ q ≤ p) ∧ Fst x q l ∧ Sm x q x p l := by
  have hp := R_in hx (p := p) (by omega)
  obtain ⟨a, a1, a2, a3⟩ := least (P := fun q => Sm x q x p l) p hp.1 (Sm_rf hl.2)
  exact ⟨a, a1, ⟨⟨hl.1, a2.1⟩, fun q u v s => a3 q u v (Sm_tr s a2)⟩, a2⟩
theorem fst_un {x : MT} (hx : MOk x) {p q l : Int} (h1 : Fst x p l) (h2 : Fst x q l) (s : Sm x p x q l) : p = q := by
  have hp := R_in hx (p := p) (by have := h1.1; omega)
  have hq := R_in hx (p := q) (by have := h2.1; omega)
  by_cases a : p < q
  · exact absurd s (h2.2 p hp.1 a)
  · by_cases b : q < p
    · exact absurd (Sm_sy s) (h1.2 q hq.1 b)
    · omega
/-! ranks -/
theorem rank_ex {x : MT} {A N : Row} (h : SrtOk x A N) {p : Int} (hp : 0 ≤ p ∧ p < x.n) : ∃ k, (0 ≤ k ∧ k < x.n) ∧ A k = p := by
  by_cases c : ∃ k, (0 ≤ k ∧ k < x.n) ∧ A k = p
  · exact c
  · have h1 := h.2.1 (fun q => ind (q = p))
    rw [sm_ind_one (P := fun q => q = p) hp rfl (fun i _ _ e => e), sm_zero (fun i a b => ind_f (fun e => c ⟨i, ⟨a, b⟩, e⟩))] at h1
    cases h1
theorem rank_un {x : MT} {A N : Row} (h : SrtOk x A N) {i j : Int} (hi : 0 ≤ i ∧ i < x.n) (hj : 0 ≤ j ∧ j < x.n) (e : A i = A j) : i = j := by
  by_cases c : i = j
  · exact c
  · have h1 := h.2.1 (fun q => ind (q = A i))
    rw [sm_ind_one (P := fun q => q = A i) (h.1.2 i hi.1 hi.2) rfl (fun i _ _ e => e)] at h1
    have h2 : sm (fun k => ind (k = i) + ind (k = j)) x.n ≤ sm (fun k => ind (A k = A i)) x.n := by
      refine sm_le (fun k a b => ?_)
      by_cases k1 : k = i
      · rw [ind_t k1, ind_f (show ¬ k = j by omega), ind_t (by rw [k1])]; omega
      · by_cases k2 : k = j
        · rw [ind_f k1, ind_t k2, ind_t (by rw [k2, e])]; omega
        · rw [ind_f k1, ind_f k2]; have := ind_nn (A k = A i); omega
    rw [sm_add, sm_ind_one (P := fun k => k = i) hi rfl (fun i _ _ e => e), sm_ind_one (P := fun k => k = j) hj rfl (fun i _ _ e => e), h1] at h2
    omega
theorem near_nn {x : MT} (hx : MOk x) {A N : Row} (h : SrtOk x A N) {k : Int} (hk : 0 ≤ k ∧ k < x.n) : 0 ≤ N k ∧ N k ≤ x.R (A k) := by
  rw [h.2.2 k hk.1 hk.2]
  by_cases c : k = 0
  · rw [if_pos c]; have := R_nn hx (A k); omega
  · rw [if_neg c]; have := lc_nn hx hx (A (k - 1)) (A k); have := lc_le hx hx (A (k - 1)) (A k); omega
/-- no earlier rank shares l letters with rank k: near is less than l -/
theorem near_iff {x : MT} (hx : MOk x) {A N : Row} (h : SrtOk x A N) {k l : Int} (hk : 0 ≤ k ∧ k < x.n) (hl : 1 ≤ l) : (∀ j, 0 ≤ j → j < k → ¬ Sm x (A j) x (A k) l) ↔ N k < l := by
  have e := h.2.2 k hk.1 hk.2
  constructor
  · intro hn
    rw [e]
    by_cases c : k = 0
    · rw [if_pos c]; omega
    · rw [if_neg c]
      by_cases d : lc x (A (k - 1)) x (A k) < l
      · exact d
      · exact absurd ((lc_iff hx hx (by omega)).mp (by omega)) (hn (k - 1) (by omega) (by omega))
  · intro hn j a b s
    rw [e, if_neg (by omega)] at hn
    have s2 : Sm x (A (k - 1)) x (A k) l := by
      by_cases c : j = k - 1
      · rw [← c]; exact s
      · exact Sm_tr (Sm_sy (between hx (h.1.1 j (k - 1) a (by omega) (by omega)) (h.1.1 (k - 1) k (by omega) (by omega) hk.2) s)) s
    have := (lc_iff hx hx (by omega)).mpr s2
    omega
/-- the reference's sums -/
theorem FS_rank {x : MT} (hx : MOk x) {A N : Row} (h : SrtOk x A N) {g : Int → Int → Int} (hg : Inv x g) : sm (fun k => sm (fun l => ind (N k < l ∧ l ≤ x.R (A k)) * g (A k) l) 61) x.n = FS x g := by
  rw [sm_sw]
  unfold FS
  refine sm_cg (fun l l0 l1 => ?_)
  by_cases hl : 1 ≤ l
  · have e1 : sm (fun k => ind (N k < l ∧ l ≤ x.R (A k)) * g (A k) l) x.n = sm (fun k => (fun p => ind (∃ j, (0 ≤ j ∧ j < x.n) ∧ A j = p ∧ N j < l ∧ l ≤ x.R p) * g p l) (A k)) x.n := by
      refine sm_cg (fun k a b => ?_)
      show _ = ind (∃ j, (0 ≤ j ∧ j < x.n) ∧ A j = A k ∧ N j < l ∧ l ≤ x.R (A k)) * g (A k) l
      rw [ind_i (P := N k < l ∧ l ≤ x.R (A k)) (Q := ∃ j, (0 ≤ j ∧ j < x.n) ∧ A j = A k ∧ N j < l ∧ l ≤ x.R (A k))]
      constructor
      · intro q; exact ⟨k, ⟨a, b⟩, rfl, q.1, q.2⟩
      · rintro ⟨j, hj, e, q1, q2⟩
        have := rank_un h hj ⟨a, b⟩ e
        subst this
        exact ⟨q1, q2⟩
    rw [e1, h.2.1 (fun p => ind (∃ j, (0 ≤ j ∧ j < x.n) ∧ A j = p ∧ N j < l ∧ l ≤ x.R p) * g p l)]
    refine (sm_reps (V := fun _ _ => True) (E := fun p q => Sm x p x q l) ?_ ?_ ?_).symm
    · intro p a b hp
      obtain ⟨k0, hk0, ek0⟩ := rank_ex h ⟨a, b⟩
      obtain ⟨k, k1, k2, k3⟩ := least (P := fun k => Sm x (A k) x p l) k0 hk0.1 (by rw [ek0]; exact Sm_rf hp.1.2)
      have hk : 0 ≤ k ∧ k < x.n := by omega
      have nk : N k < l := (near_iff hx h hk hl).mp (fun j u v s => k3 j u v (Sm_tr s k2))
      refine ⟨A k, h.1.2 k hk.1 hk.2, ⟨k, hk, rfl, nk, k2.1⟩, Sm_sy k2, ?_⟩
      rintro y u v ⟨j, hj, rfl, q1, q2⟩ s
      by_cases c : j < k
      · exact absurd (Sm_sy s) (k3 j hj.1 c)
      · by_cases d : k < j
        · exact absurd (Sm_tr k2 s) ((near_iff hx h hj hl).mpr q1 k hk.1 d)
        · rw [show j = k by omega]
    · rintro p a b ⟨k, hk, rfl, q1, q2⟩
      obtain ⟨q, r1, r2, r3⟩ := fst_ex hx ⟨hl, q2⟩
      refine ⟨q, by omega, r2, r3, fun q' u v w s => fst_un hx w r2 (Sm_tr s (Sm_sy r3))⟩
    · intro p q _ _ _ _ _ _ s
      exact hg p q l hl s
  · rw [sm_zero (fun k a b => by rw [ind_f (fun q => by have := near_nn hx h ⟨a, b⟩; omega)]; simp), sm_zero (fun k a b => by rw [ind_f (fun q => by have := q.1; omega)]; simp)]
/-! by ends -/
theorem sm_shift {g : Int → Int} {n d : Int} (hd : 0 ≤ d) (h0 : ∀ p, p < 0 → g p = 0) : sm (fun e => g (e - d)) n = sm g (n - d) := by
  by_cases hn : 0 ≤ n
  · refine int_ind (P := fun n => sm (fun e => g (e - d)) n = sm g (n - d)) ?_ ?_ n hn
    · rw [sm_0 (Int.le_refl 0), sm_0 (by omega)]
    · intro i hi ih
      rw [sm_s hi, ih]
      by_cases c : 0 ≤ i - d
      · rw [show i + 1 - d = i - d + 1 by omega, sm_s c]
      · rw [h0 _ (by omega), sm_0 (n := i - d) (by omega), sm_0 (n := i + 1 - d) (by omega)]; rfl
  · rw [sm_0 (by omega), sm_0 (by omega)]
theorem sm_tail {g : Int → Int} {a b : Int} (h : a ≤ b) (h0 : ∀ p, a ≤ p → p < b → 0 ≤ p → g p = 0) : sm g b = sm g a := by
  by_cases hb : 0 ≤ b
  · by_cases ha : 0 ≤ a
    · obtain ⟨d, rfl⟩ : ∃ d, b = a + d := ⟨b - a, by omega⟩
      have : ∀ j, 0 ≤ j → j ≤ d → sm g (a + j) = sm g a := by
        intro j hj
        refine int_ind (P := fun j => j ≤ d → sm g (a + j) = sm g a) (fun _ => by rw [Int.add_zero]) (fun i hi ih hl => ?_) j hj
        rw [show a + (i + 1) = a + i + 1 by omega, sm_s (by omega), ih (by omega), h0 (a + i) (by omega) (by omega) (by omega)]
        omega
      exact this d (by omega) (Int.le_refl _)
    · rw [sm_0 (n := a) (by omega), sm_zero (fun p u v => h0 p (by omega) v u)]
  · rw [sm_0 (by omega), sm_0 (by omega)]
theorem sm_ends {g : Int → Int} {n l : Int} (hl : 1 ≤ l) (h0 : ∀ p, ¬ (0 ≤ p ∧ p + l ≤ n) → g p = 0) : sm (fun e => g (e - l + 1)) n = sm g n := by
  rw [sm_cg (f := fun e => g (e - l + 1)) (g := fun e => g (e - (l - 1))) (fun e _ _ => by rw [show e - l + 1 = e - (l - 1) by omega]), sm_shift (by omega) (fun p q => h0 p (by omega))]
  exact (sm_tail (by omega) (fun p a b _ => h0 p (by omega))).symm
/-- the longest end at e that stands earlier -/
def Kn (x : MT) (e k : Int) : Prop := 0 ≤ k ∧ (∀ i, 0 ≤ i → i < e → cs x e x i ≤ k) ∧ (k = 0 ∨ ∃ i, (0 ≤ i ∧ i < e) ∧ cs x e x i = k)
theorem Kn_le {x : MT} (hx : MOk x) {e k : Int} (h : Kn x e k) : k ≤ x.P e + 1 := by
  rcases h.2.2 with c | ⟨i, hi, c⟩
  · have := P_in hx e; omega
  · have := cs_le hx hx e i; omega
/-- it stands at e first: the length is above -/
theorem Kn_fst {x : MT} (hx : MOk x) {e k l : Int} (he : 0 ≤ e ∧ e < x.n) (h : Kn x e k) (hl : 1 ≤ l) : Fst x (e - l + 1) l ↔ (k < l ∧ l ≤ x.P e + 1) := by
  constructor
  · intro f
    have hr := f.1.2
    have hp := R_in hx (p := e - l + 1) (by omega)
    have a := hx.2.2.1 (e - l + 1) (l - 1) hp.1 hp.2 (by omega) (by omega)
    rw [show e - l + 1 + (l - 1) = e by omega] at a
    have b := hx.2.1 (e - l + 1) hp.1 hp.2
    refine ⟨?_, by omega⟩
    by_cases c : k < l
    · exact c
    · rcases h.2.2 with d | ⟨i, hi, d⟩
      · omega
      · have s := (cs_iff hx hx he (d := i) ⟨by omega, by omega⟩ hl).mp (by omega)
        have hi2 := Sm_in hx hl (Sm_sy s)
        exact absurd (Sm_sy s) (f.2 (i - l + 1) hi2.1 (by omega))
  · intro ⟨q1, q2⟩
    have a := hx.2.2.2.1 e (l - 1) he.1 he.2 (by omega) (by omega)
    rw [show e - (l - 1) = e - l + 1 by omega] at a
    have b := hx.2.1 e he.1 he.2
    refine ⟨⟨hl, by omega⟩, fun q u v s => ?_⟩
    have hq : q + l ≤ x.n := by
      have := hx.2.1 q (Sm_in hx hl s).1 (Sm_in hx hl s).2
      have := s.1
      omega
    have s2 := (cs_iff hx hx he (d := q + l - 1) ⟨by omega, by omega⟩ hl).mpr (by rw [show q + l - 1 - l + 1 = q by omega]; exact Sm_sy s)
    have := h.2.1 (q + l - 1) (by omega) (by omega)
    omega
theorem FS_ends {x : MT} (hx : MOk x) {K : Row} (hK : ∀ e, 0 ≤ e → e < x.n → Kn x e (K e)) (g : Int → Int → Int) : sm (fun e => sm (fun l => ind (K e < l ∧ l ≤ x.P e + 1) * g (e - l + 1) l) 61) x.n = FS x g := by
  rw [sm_sw]
  unfold FS
  refine sm_cg (fun l l0 l1 => ?_)
  by_cases hl : 1 ≤ l
  · rw [← sm_ends (g := fun p => ind (Fst x p l) * g p l) (n := x.n) hl (fun p q => ?_)]
    · refine sm_cg (fun e a b => ?_)
      rw [ind_i (Kn_fst hx ⟨a, b⟩ (hK e a b) hl)]
    · rw [ind_f (fun f => ?_)]
      · simp
      · have hr := f.1.2
        have hp := R_in hx (p := p) (by omega)
        have b := hx.2.1 p hp.1 hp.2
        omega
  · rw [sm_zero (fun e a b => by rw [ind_f (fun q => by have := (hK e a b).1; omega)]; simp), sm_zero (fun k a b => by rw [ind_f (fun q => by have := q.1; omega)]; simp)]
