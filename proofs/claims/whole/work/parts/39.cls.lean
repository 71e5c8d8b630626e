/-! classes: the tables of first ends and lengths, one up to nothing, and at most twice as many as letters -/
section CL
variable {x : MT}
theorem cs_sy (hx : MOk x) (a b : Int) : cs x a x b = cs x b x a := by
  have key : ∀ a b, cs x a x b ≤ cs x b x a := by
    intro a b
    have l0 := cs_nn hx hx a b
    have := (cs_iff0 hx hx l0).mp (Int.le_refl _)
    exact (cs_iff0 hx hx l0).mpr ⟨this.2.1, this.1, fun i u v => (this.2.2 i u v).symm⟩
  have := key a b
  have := key b a
  omega
theorem cs_tr (hx : MOk x) {a b c l : Int} (hl : 0 ≤ l) (h : l ≤ cs x a x b) (k : l ≤ cs x b x c) : l ≤ cs x a x c := by
  have p := (cs_iff0 hx hx hl).mp h
  have q := (cs_iff0 hx hx hl).mp k
  exact (cs_iff0 hx hx hl).mpr ⟨p.1, q.2.1, fun i u v => (p.2.2 i u v).trans (q.2.2 i u v)⟩
theorem cs_self (hx : MOk x) (e : Int) : cs x e x e = x.P e + 1 := by
  have := cs_le hx hx e e
  have p := P_in hx e
  have := (cs_iff0 hx hx (p := e) (q := e) (l := x.P e + 1) (by omega)).mpr ⟨by omega, by omega, fun _ _ _ => rfl⟩
  omega
def knN (x : MT) (e : Int) : Nat → Int
  | 0 => 0
  | i + 1 => max (knN x e i) (cs x e x i)
def kn (x : MT) (e : Int) : Int := knN x e e.toNat
theorem kn_ok (hx : MOk x) (e : Int) : Kn x e (kn x e) := by
  have key : ∀ m : Nat, 0 ≤ knN x e m ∧ (∀ i, 0 ≤ i → i < (m : Int) → cs x e x i ≤ knN x e m) ∧ (knN x e m = 0 ∨ ∃ i, (0 ≤ i ∧ i < (m : Int)) ∧ cs x e x i = knN x e m) := by
    intro m
    induction m with
    | zero => exact ⟨Int.le_refl 0, fun i a b => by omega, Or.inl rfl⟩
    | succ m ih =>
      obtain ⟨i1, i2, i3⟩ := ih
      have c0 := cs_nn hx hx e m
      have em : knN x e (m + 1) = max (knN x e m) (cs x e x m) := rfl
      refine ⟨by rw [em]; omega, fun i a b => ?_, ?_⟩
      · by_cases c : i = (m : Int)
        · rw [em, c]; omega
        · have := i2 i a (by omega)
          rw [em]; omega
      · by_cases c : cs x e x m ≤ knN x e m
        · have e2 : knN x e (m + 1) = knN x e m := by rw [em]; omega
          rw [e2]
          rcases i3 with d | ⟨i, hi, d⟩
          · exact Or.inl d
          · exact Or.inr ⟨i, ⟨hi.1, by omega⟩, d⟩
        · exact Or.inr ⟨m, ⟨by omega, by omega⟩, by rw [em]; omega⟩
  have := key e.toNat
  unfold kn Kn
  by_cases c : 0 ≤ e
  · have t : (e.toNat : Int) = e := Int.toNat_of_nonneg c
    rw [t] at this
    exact this
  · have t : e.toNat = 0 := by omega
    rw [t] at this ⊢
    exact ⟨Int.le_refl 0, fun i a b => by omega, Or.inl rfl⟩
theorem Kn_un {e a b : Int} (h : Kn x e a) (k : Kn x e b) : a = b := by
  have key : ∀ a b, Kn x e a → Kn x e b → a ≤ b := by
    intro a b h k
    rcases h.2.2 with c | ⟨i, hi, c⟩
    · have := k.1; omega
    · have := k.2.1 i hi.1 hi.2; omega
  have := key a b h k
  have := key b a k h
  omega
/-- how many places end the stretch of l letters that ends at e -/
noncomputable def ce (x : MT) (e l : Int) : Int := sm (fun d => ind (l ≤ cs x d x e)) x.n
theorem ce_cs (hx : MOk x) {e d l : Int} (hl : 0 ≤ l) (h : l ≤ cs x e x d) : ce x e l = ce x d l :=
  sm_cg (fun i _ _ => ind_i ⟨fun s => cs_tr hx hl s h, fun s => cs_tr hx hl s (by rw [cs_sy hx]; exact h)⟩)
theorem ce_le (hx : MOk x) (e l : Int) : 0 ≤ ce x e l ∧ ce x e l ≤ x.n := by
  refine ⟨sm_nn (fun i _ _ => ind_nn _), ?_⟩
  have := sm_le (f := fun q => ind (l ≤ cs x q x e)) (g := fun _ => 1) (n := x.n) (fun i a b => ind_le _)
  rw [sm_c 1 hx.1.1] at this
  unfold ce; omega
theorem P_R (hx : MOk x) {e l : Int} (he : 0 ≤ e ∧ e < x.n) (hl : 1 ≤ l ∧ l ≤ x.P e + 1) : (0 ≤ e - l + 1 ∧ e - l + 1 < x.n) ∧ x.R (e - l + 1) = x.R e + l - 1 ∧ l ≤ x.R (e - l + 1) ∧ x.W (e - l + 1) = x.W e := by
  have a := hx.2.2.2.1 e (l - 1) he.1 he.2 (by omega) (by omega)
  rw [show e - (l - 1) = e - l + 1 by omega] at a
  have b := hx.2.1 e he.1 he.2
  omega
theorem R_P (hx : MOk x) {p l : Int} (hl : 1 ≤ l ∧ l ≤ x.R p) : (0 ≤ p ∧ p < x.n) ∧ (0 ≤ p + l - 1 ∧ p + l - 1 < x.n) ∧ x.P (p + l - 1) = x.P p + l - 1 ∧ l ≤ x.P (p + l - 1) + 1 ∧ x.W (p + l - 1) = x.W p ∧ x.R (p + l - 1) = x.R p - l + 1 := by
  have h := R_in hx (p := p) (by omega)
  have a := hx.2.2.1 p (l - 1) h.1 h.2 (by omega) (by omega)
  rw [show p + (l - 1) = p + l - 1 by omega] at a
  have b := hx.2.1 p h.1 h.2
  omega
theorem cs_Sm (hx : MOk x) {d e l : Int} (hd : 0 ≤ d ∧ d < x.n) (he : 0 ≤ e ∧ e < x.n) (hl : 1 ≤ l) : l ≤ cs x d x e ↔ Sm x (d - l + 1) x (e - l + 1) l := cs_iff hx hx hd he hl
theorem Sm_cs (hx : MOk x) {p q l : Int} (hl : 1 ≤ l) : Sm x p x q l ↔ ((0 ≤ p ∧ p + l ≤ x.n) ∧ (0 ≤ q ∧ q + l ≤ x.n) ∧ l ≤ cs x (p + l - 1) x (q + l - 1)) := by
  constructor
  · intro s
    have a := R_P hx ⟨hl, s.1⟩
    have b := R_P hx ⟨hl, s.2.1⟩
    refine ⟨by omega, by omega, (cs_Sm hx a.2.1 b.2.1 hl).mpr ?_⟩
    rw [show p + l - 1 - l + 1 = p by omega, show q + l - 1 - l + 1 = q by omega]; exact s
  · rintro ⟨a, b, c⟩
    have := (cs_Sm hx (d := p + l - 1) (e := q + l - 1) (by omega) (by omega) hl).mp c
    rw [show p + l - 1 - l + 1 = p by omega, show q + l - 1 - l + 1 = q by omega] at this; exact this
theorem ce_cnt (hx : MOk x) {e l : Int} (he : 0 ≤ e ∧ e < x.n) (hl : 1 ≤ l) : ce x e l = cnt x (e - l + 1) l := by
  unfold ce cnt
  rw [← sm_ends (g := fun q => ind (Sm x q x (e - l + 1) l)) hl (fun p q => ind_f (fun s => q (by have := (Sm_cs hx hl).mp s; omega)))]
  exact sm_cg (fun d a b => ind_i (cs_Sm hx ⟨a, b⟩ he hl))
def C1 (x : MT) (E S G : Row) (c : Int) : Prop := (0 ≤ E c ∧ E c < x.n) ∧ (kn x (E c) < S c ∧ S c ≤ G c ∧ G c ≤ x.P (E c) + 1) ∧ (∀ m, S c ≤ m → m ≤ G c → ce x (E c) m = ce x (E c) (G c)) ∧ (S c = kn x (E c) + 1 ∨ ce x (E c) (S c - 1) ≠ ce x (E c) (S c))
def C2 (x : MT) (E G : Row) (c : Int) : Prop := G c = x.P (E c) + 1 ∨ ce x (E c) (G c + 1) ≠ ce x (E c) (G c)
def Ord (E S G : Row) (N : Int) : Prop := ∀ c d, 0 ≤ c → c < d → d < N → E c < E d ∨ (E c = E d ∧ G c < S d)
def Has (N : Int) (E S G : Row) (e l c : Int) : Prop := (0 ≤ c ∧ c < N) ∧ E c = e ∧ S c ≤ l ∧ l ≤ G c
def CT (x : MT) (N : Int) (E S G : Row) : Prop := 0 ≤ N ∧ (∀ c, 0 ≤ c → c < N → C1 x E S G c ∧ C2 x E G c) ∧ Ord E S G N ∧ ∀ e l, 0 ≤ e → e < x.n → kn x e < l → l ≤ x.P e + 1 → ∃ c, Has N E S G e l c
theorem Has_un {N : Int} {E S G : Row} (h : Ord E S G N) {e l c d : Int} (a : Has N E S G e l c) (b : Has N E S G e l d) : c = d := by
  obtain ⟨a1, a2, a3, a4⟩ := a
  obtain ⟨b1, b2, b3, b4⟩ := b
  by_cases q : c < d
  · have := h c d a1.1 q b1.2; omega
  · by_cases r : d < c
    · have := h d c b1.1 r a1.2; omega
    · omega
theorem CT_un {N N' : Int} {E S G E' S' G' : Row} (h : CT x N E S G) (k : CT x N' E' S' G') : N = N' ∧ ∀ c, 0 ≤ c → c < N → E c = E' c ∧ S c = S' c ∧ G c = G' c := by
  have half : ∀ {N N' : Int} {E S G E' S' G' : Row}, CT x N E S G → CT x N' E' S' G' → ∀ c, 0 ≤ c → c < N → (∀ d, 0 ≤ d → d < c → d < N' ∧ E d = E' d ∧ S d = S' d ∧ G d = G' d) → ∃ d, (c ≤ d ∧ d < N') ∧ E' d = E c ∧ S' d ≤ S c ∧ S c ≤ G' d := by
    intro N N' E S G E' S' G' h k c c0 c1 ih
    obtain ⟨⟨a1, a2, a3, a4⟩, a5⟩ := h.2.1 c c0 c1
    obtain ⟨d, d1, d2, d3, d4⟩ := k.2.2.2 (E c) (S c) a1.1 a1.2 a2.1 (by omega)
    refine ⟨d, ⟨?_, d1.2⟩, d2, d3, d4⟩
    by_cases q : d < c
    · obtain ⟨i1, i2, i3, i4⟩ := ih d d1.1 q
      have := h.2.2.1 d c d1.1 q c1
      omega
    · omega
  have main : ∀ c, 0 ≤ c → (c < N → c < N' ∧ E c = E' c ∧ S c = S' c ∧ G c = G' c) ∧ (c < N' → c < N) := by
    have str : ∀ m : Nat, ∀ c, 0 ≤ c → c < (m : Int) → (c < N → c < N' ∧ E c = E' c ∧ S c = S' c ∧ G c = G' c) ∧ (c < N' → c < N) := by
      intro m
      induction m with
      | zero => intro c a b; omega
      | succ m ih =>
        intro c c0 c1
        have fw : c < N → c < N' := by
          intro q
          obtain ⟨d, d1, _⟩ := half h k c c0 q (fun d a b => (ih d a (by omega)).1 (by omega))
          omega
        have bw : c < N' → c < N := by
          intro q
          obtain ⟨d, d1, _⟩ := half k h c c0 q (fun d a b => by
            have dN := (ih d a (by omega)).2 (by omega)
            have := (ih d a (by omega)).1 dN
            exact ⟨dN, this.2.1.symm, this.2.2.1.symm, this.2.2.2.symm⟩)
          omega
        refine ⟨fun q => ?_, bw⟩
        have q' := fw q
        obtain ⟨d, d1, d2, d3, d4⟩ := half h k c c0 q (fun d a b => (ih d a (by omega)).1 (by omega))
        obtain ⟨g, g1, g2, g3, g4⟩ := half k h c c0 q' (fun d a b => by
            have dN := (ih d a (by omega)).2 (by omega)
            have := (ih d a (by omega)).1 dN
            exact ⟨dN, this.2.1.symm, this.2.2.1.symm, this.2.2.2.symm⟩)
        have o1 : d = c ∨ (E' c < E' d ∨ (E' c = E' d ∧ G' c < S' d)) := by
          by_cases w : d = c
          · exact Or.inl w
          · exact Or.inr (k.2.2.1 c d c0 (by omega) d1.2)
        have o2 : g = c ∨ (E c < E g ∨ (E c = E g ∧ G c < S g)) := by
          by_cases w : g = c
          · exact Or.inl w
          · exact Or.inr (h.2.2.1 c g c0 (by omega) g1.2)
        obtain ⟨⟨p1, p2, p3, p4⟩, p5⟩ := h.2.1 c c0 q
        obtain ⟨⟨r1, r2, r3, r4⟩, r5⟩ := k.2.1 c c0 q'
        have eES : E c = E' c ∧ S c = S' c := by
          rcases o1 with rfl | o1
          · rcases o2 with rfl | o2
            · omega
            · omega
          · rcases o2 with rfl | o2
            · omega
            · omega
        refine ⟨q', eES.1, eES.2, ?_⟩
        rw [← eES.1] at r2 r3
        unfold C2 at p5 r5
        rw [← eES.1] at r5
        by_cases w : G c < G' c
        · rcases p5 with p5 | p5
          · omega
          · exact absurd ((r3 (G c + 1) (by omega) (by omega)).trans (r3 (G c) (by omega) (by omega)).symm) p5
        · by_cases w2 : G' c < G c
          · rcases r5 with r5 | r5
            · omega
            · exact absurd ((p3 (G' c + 1) (by omega) (by omega)).trans (p3 (G' c) (by omega) (by omega)).symm) r5
          · omega
    intro c c0
    exact str (c.toNat + 1) c c0 (by omega)
  refine ⟨?_, fun c a b => ((main c a).1 b).2⟩
  have n0 := h.1
  have n1 := k.1
  by_cases q : N < N'
  · have := (main N n0).2 q; omega
  · by_cases r : N' < N
    · have := (main N' n1).1 r; omega
    · omega
theorem php {N n : Int} {T : Int → Prop} {D : Int → Int → Prop} (hn : 0 ≤ n) (ex : ∀ c, 0 ≤ c → c < N → T c → ∃ d, (0 ≤ d ∧ d < n) ∧ D c d) (inj : ∀ c c' d, 0 ≤ c → c < N → 0 ≤ c' → c' < N → T c → T c' → D c d → D c' d → c = c') : sm (fun c => ind (T c)) N ≤ n := by
  have a : sm (fun c => ind (T c)) N ≤ sm (fun c => sm (fun d => ind (T c ∧ D c d)) n) N := by
    refine sm_le (fun c c0 c1 => ?_)
    by_cases t : T c
    · obtain ⟨d, hd, w⟩ := ex c c0 c1 t
      have := sm_ge (f := fun d => ind (T c ∧ D c d)) hd (fun i _ _ => ind_nn _)
      rw [ind_t ⟨t, w⟩] at this
      rw [ind_t t]; exact this
    · rw [ind_f t]; exact sm_nn (fun i _ _ => ind_nn _)
  rw [sm_sw] at a
  have b : sm (fun d => sm (fun c => ind (T c ∧ D c d)) N) n ≤ sm (fun _ => 1) n := sm_le (fun d d0 d1 => sm_ind_le1 (P := fun c => T c ∧ D c d) (fun i j a1 a2 a3 a4 p q => inj i j d a1 a2 a3 a4 p.1 q.1 p.2 q.2))
  rw [sm_c 1 hn] at b
  omega
theorem CT_most (hx : MOk x) {N : Int} {E S G : Row} (hN : 0 ≤ N) (h1 : ∀ c, 0 ≤ c → c < N → C1 x E S G c) (h2 : Ord E S G N) : N ≤ 2 * x.n := by
  have same : ∀ c d, 0 ≤ c → c < N → 0 ≤ d → d < N → E c = E d → S c = S d → c = d := by
    intro c d a b a' b' e s
    have p := (h1 c a b).2.1
    have q := (h1 d a' b').2.1
    exact Has_un h2 (e := E c) (l := S c) ⟨⟨a, b⟩, rfl, Int.le_refl _, p.2.1⟩ ⟨⟨a', b'⟩, e.symm, by omega, by omega⟩
  have t0 := php (N := N) (n := x.n) (T := fun c => S c = kn x (E c) + 1) (D := fun c d => E c = d) hx.1.1 (fun c a b _ => ⟨E c, (h1 c a b).1, rfl⟩) (fun c c' d a b a' b' s s' e e' => same c c' a b a' b' (by omega) (by rw [s, s', e, e']))
  have t1 := php (N := N) (n := x.n) (T := fun c => ¬ S c = kn x (E c) + 1) (D := fun c d => 0 ≤ d ∧ cs x d x (E c) = S c - 1 ∧ ∀ i, 0 ≤ i → i < d → cs x i x (E c) ≠ S c - 1) hx.1.1 ?_ ?_
  · have e : sm (fun c => ind (S c = kn x (E c) + 1) + ind (¬ S c = kn x (E c) + 1)) N = sm (fun _ => 1) N := by
      refine sm_cg (fun c a b => ?_)
      by_cases w : S c = kn x (E c) + 1
      · rw [ind_t w, ind_f (fun q => q w)]; rfl
      · rw [ind_f w, ind_t w]; rfl
    rw [sm_add, sm_c 1 hN] at e
    omega
  · intro c a b t
    obtain ⟨p1, p2, p3, p4⟩ := h1 c a b
    have p5 := p4.resolve_left t
    have : ∃ d, (0 ≤ d ∧ d < x.n) ∧ cs x d x (E c) = S c - 1 := by
      refine Classical.byContradiction (fun no => p5 (sm_cg (fun d d0 d1 => ind_i ⟨fun q => ?_, fun q => by omega⟩)))
      have : cs x d x (E c) ≠ S c - 1 := fun w => no ⟨d, ⟨d0, d1⟩, w⟩
      omega
    obtain ⟨d, hd, w⟩ := this
    obtain ⟨a, ha, w1, w2⟩ := least (P := fun d => cs x d x (E c) = S c - 1) d hd.1 w
    exact ⟨a, by omega, by omega, w1, w2⟩
  · have key : ∀ c c' d, 0 ≤ c → c < N → 0 ≤ c' → c' < N → ¬ S c = kn x (E c) + 1 → ¬ S c' = kn x (E c') + 1 → cs x d x (E c) = S c - 1 → (∀ i, 0 ≤ i → i < d → cs x i x (E c) ≠ S c - 1) → cs x d x (E c') = S c' - 1 → E c < E c' → E c' < d → False := by
      intro c c' d a b a' b' s s' e m e' o1 o2
      obtain ⟨p1, p2, p3, p4⟩ := h1 c a b
      obtain ⟨q1, q2, q3, q4⟩ := h1 c' a' b'
      have k0 := (kn_ok hx (E c)).1
      have k1 := (kn_ok hx (E c'))
      have kk := k1.2.1 (E c) p1.1 o1
      have u : S c - 1 < S c' - 1 := by
        by_cases g : S c - 1 < S c' - 1
        · exact g
        · have := cs_tr hx (a := E c') (b := d) (c := E c) (l := S c' - 1) (by have := k1.1; omega) (by rw [cs_sy hx]; omega) (by omega)
          omega
      have v := cs_tr hx (a := E c') (b := d) (c := E c) (l := S c - 1) (by omega) (by rw [cs_sy hx]; omega) (by omega)
      have w : ¬ S c ≤ cs x (E c') x (E c) := fun g => by
        have := cs_tr hx (a := d) (b := E c') (c := E c) (l := S c) (by omega) (by omega) g
        omega
      exact m (E c') q1.1 o2 (by omega)
    have late : ∀ c d, 0 ≤ c → c < N → 0 ≤ d → ¬ S c = kn x (E c) + 1 → cs x d x (E c) = S c - 1 → E c < d := by
      intro c d a b d0 s e
      obtain ⟨p1, p2, p3, p4⟩ := h1 c a b
      by_cases g : d < E c
      · have := (kn_ok hx (E c)).2.1 d d0 g
        rw [cs_sy hx] at this
        omega
      · by_cases g2 : d = E c
        · rw [g2, cs_self hx] at e; omega
        · omega
    intro c c' d a b a' b' s s' e e'
    obtain ⟨dn, e⟩ := e
    obtain ⟨_, e'⟩ := e'
    have l1 := late c d a b dn s e.1
    have l2 := late c' d a' b' dn s' e'.1
    by_cases o : E c < E c'
    · exact (key c c' d a b a' b' s s' e.1 e.2 e'.1 o l2).elim
    · by_cases o2 : E c' < E c
      · exact (key c' c d a' b' a b s' s e'.1 e'.2 e.1 o2 l1).elim
      · exact same c c' a b a' b' (by omega) (by have e2 : E c = E c' := by omega
                                                 have q1 := e.1; have q2 := e'.1; rw [e2] at q1; omega)
end CL
