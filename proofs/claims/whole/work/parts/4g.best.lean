/-! the best stretch: longest (common) or shortest (unique), the first in order -/
section BS
variable {n : Nat} {x : MT}
theorem BS_tr {f g : Int → Int} {A B : Int → Prop} {s : Int} (h : BS f A s) (e : ∀ v, (∃ p, A p ∧ f p = v) ↔ ∃ q, B q ∧ g q = v) : BS g B s := ⟨h.1, fun k hk => by rw [h.2 k hk]; exact e k⟩
theorem WX_of (hx : MOk x) {e l s : Int} (he : 0 ≤ e ∧ e < x.n) (hl : 1 ≤ l) (h : WS x e l s) : WX x (e - l + 1) l s := by
  refine BS_tr h (fun v => ?_)
  constructor
  · rintro ⟨d, ⟨d1, d2⟩, dv⟩
    have s := (cs_Sm hx d1 he hl).mp d2
    have rp := R_P hx ⟨hl, s.1⟩
    rw [show d - l + 1 + l - 1 = d by omega] at rp
    exact ⟨d - l + 1, ⟨rp.1, s⟩, by rw [← rp.2.2.2.2.1]; exact dv⟩
  · rintro ⟨q, ⟨q1, q2⟩, qv⟩
    have rp := R_P hx ⟨hl, q2.1⟩
    refine ⟨q + l - 1, ⟨rp.2.1, (cs_Sm hx rp.2.1 he hl).mpr ?_⟩, by rw [rp.2.2.2.2.1]; exact qv⟩
    rw [show q + l - 1 - l + 1 = q by omega]; exact q2
theorem WX_Sm {p q l s : Int} (h : Sm x p x q l) (k : WX x p l s) : WX x q l s := BS_cg k (fun i => ⟨fun ⟨a, b⟩ => ⟨a, Sm_tr b (Sm_sy h)⟩, fun ⟨a, b⟩ => ⟨a, Sm_tr b h⟩⟩)
theorem WX_un {p l s t : Int} (h : WX x p l s) (k : WX x p l t) : s = t := BS_un h k (fun _ => Iff.rfl)
theorem WS_ce (hx : MOk x) {e l k s : Int} (hl : l ≤ k) (h : ce x e l = ce x e k) (w : WS x e k s) : WS x e l s := BS_cg w (fun d => ⟨fun ⟨a, b⟩ => ⟨a, ce_same hx hl h a b⟩, fun ⟨a, b⟩ => ⟨a, by omega⟩⟩)
/-- the words of a class are those of each of its stretches -/
theorem Cls_WX (hx : MOk x) {C : ClsS} (hC : ClsOk x C) {c l : Int} (hc : 0 ≤ c ∧ c < C.size) (hl : C.shortest c ≤ l ∧ l ≤ C.longest c) : WX x (C.firstEnds c - l + 1) l (C.wordSets c) := by
  have r1 := (hC.1.2.1 c hc.1 hc.2).1
  have k0 := (kn_ok hx (C.firstEnds c)).1
  have b := r1.1.2.1
  exact WX_of hx r1.1.1 (by omega) (WS_ce hx hl.2 (r1.1.2.2.1 l hl.1 hl.2) r1.2.2.2.2.1)
/-- every stretch has its class -/
theorem Cls_rep (hx : MOk x) {C : ClsS} (hC : ClsOk x C) {p l : Int} (hl : 1 ≤ l ∧ l ≤ x.R p) : ∃ c, (0 ≤ c ∧ c < C.size) ∧ (C.shortest c ≤ l ∧ l ≤ C.longest c) ∧ Sm x p x (C.firstEnds c - l + 1) l := by
  have rp := R_P hx hl
  have cl := hC.1.2.2.2.2 (p + l - 1) l rp.2.1.1 rp.2.1.2 hl.1 rp.2.2.2.1 (Or.inl rp.2.1.2)
  have r3 := (hC.1.2.1 _ cl.1.1 cl.1.2).1
  refine ⟨_, cl.1, cl.2.1, ?_⟩
  have := (cs_Sm hx rp.2.1 r3.1.1 hl.1).mp cl.2.2
  rw [show p + l - 1 - l + 1 = p by omega] at this
  exact this
def BM (σ : Int) (x : MT) (A : Int → Int → Prop) (p l : Int) : Prop := (1 ≤ l ∧ l ≤ x.R p) ∧ A p l ∧ (∀ q k, 1 ≤ k → k ≤ x.R q → A q k → σ * k ≤ σ * l) ∧ ∀ q, l ≤ x.R q → A q l → Bf x q p → Sm x q x p l
theorem BM_un (hx : MOk x) {σ : Int} (hσ : σ = 1 ∨ σ = -1) {A : Int → Int → Prop} {p l q k : Int} (h : BM σ x A p l) (g : BM σ x A q k) : l = k ∧ Sm x p x q l := by
  have a := h.2.2.1 q k g.1.1 g.1.2 g.2.1
  have b := g.2.2.1 p l h.1.1 h.1.2 h.2.1
  have e : l = k := by rcases hσ with rfl | rfl <;> omega
  subst e
  refine ⟨rfl, ?_⟩
  rcases tri hx p q with w | w | w
  · exact g.2.2.2 p h.1.2 h.2.1 w
  · exact Eqs_Sm hx w (by have := h.1; omega)
  · exact Sm_sy (h.2.2.2 q g.1.2 g.2.1 w)
/-- what the component's loop over the classes keeps -/
def CB (σ : Int) (x : MT) (A' : Int → Prop) (st ln : Int → Int) (b z : Int) : Prop := (b = -6 ∧ ∀ c, 0 ≤ c → c < z → ¬ A' c) ∨ ((0 ≤ b ∧ b < z) ∧ A' b ∧ ∀ c, 0 ≤ c → c < z → A' c → σ * ln c < σ * ln b ∨ (ln c = ln b ∧ ¬ Bf x (st c) (st b)))
theorem CB_no {σ : Int} {A' : Int → Prop} {st ln : Int → Int} {b z : Int} (h : CB σ x A' st ln b z) (w : ¬ A' z) : CB σ x A' st ln b (z + 1) := by
  rcases h with ⟨h1, h2⟩ | ⟨h1, h2, h3⟩
  · refine Or.inl ⟨h1, fun c a d => ?_⟩
    by_cases q : c = z
    · rw [q]; exact w
    · exact h2 c a (by omega)
  · refine Or.inr ⟨by omega, h2, fun c a d q => ?_⟩
    by_cases e : c = z
    · rw [e] at q; exact absurd q w
    · exact h3 c a (by omega) q
theorem CB_keep {σ : Int} {A' : Int → Prop} {st ln : Int → Int} {b z : Int} (h : CB σ x A' st ln b z) (hb : b ≠ -6) (w : σ * ln z < σ * ln b ∨ (ln z = ln b ∧ ¬ Bf x (st z) (st b))) : CB σ x A' st ln b (z + 1) := by
  rcases h with ⟨h1, h2⟩ | ⟨h1, h2, h3⟩
  · exact absurd h1 hb
  · refine Or.inr ⟨by omega, h2, fun c a d q => ?_⟩
    by_cases e : c = z
    · rw [e]; exact w
    · exact h3 c a (by omega) q
theorem CB_new (hx : MOk x) {σ : Int} {A' : Int → Prop} {st ln : Int → Int} {b z : Int} (h : CB σ x A' st ln b z) (hz : 0 ≤ z) (hA : A' z) (w : b ≠ -6 → σ * ln b < σ * ln z ∨ (ln z = ln b ∧ Bf x (st z) (st b))) : CB σ x A' st ln z (z + 1) := by
  refine Or.inr ⟨by omega, hA, fun c a d q => ?_⟩
  by_cases e : c = z
  · rw [e]; exact Or.inr ⟨rfl, Bf_ir hx _⟩
  · rcases h with ⟨h1, h2⟩ | ⟨h1, h2, h3⟩
    · exact absurd q (h2 c a (by omega))
    · rcases h3 c a (by omega) q with u | ⟨u1, u2⟩
      · rcases w (by omega) with v | ⟨v1, v2⟩
        · exact Or.inl (by omega)
        · rw [v1]; exact Or.inl u
      · rcases w (by omega) with v | ⟨v1, v2⟩
        · rw [u1]; exact Or.inl v
        · exact Or.inr ⟨by omega, fun y => u2 (Bf_tr hx y (Bf_as hx v2))⟩
theorem CB_fin (hx : MOk x) {σ : Int} (hσ : σ = 1 ∨ σ = -1) {A : Int → Int → Prop} {A' : Int → Prop} {st ln : Int → Int} {b z : Int} (h : CB σ x A' st ln b z)
    (h1 : ∀ c, 0 ≤ c → c < z → (1 ≤ ln c ∧ ln c ≤ x.R (st c)) ∧ (A' c ↔ A (st c) (ln c)))
    (h2 : ∀ q k, 1 ≤ k → k ≤ x.R q → A q k → ∃ c, (0 ≤ c ∧ c < z) ∧ A' c ∧ σ * k ≤ σ * ln c ∧ (k = ln c → Sm x q x (st c) k)) : (b = -6 ∧ ∀ q k, 1 ≤ k → k ≤ x.R q → ¬ A q k) ∨ ((0 ≤ b ∧ b < z) ∧ BM σ x A (st b) (ln b)) := by
  rcases h with ⟨a1, a2⟩ | ⟨a1, a2, a3⟩
  · refine Or.inl ⟨a1, fun q k k0 k1 w => ?_⟩
    obtain ⟨c, c1, c2, _⟩ := h2 q k k0 k1 w
    exact a2 c c1.1 c1.2 c2
  · have b1 := h1 b a1.1 a1.2
    refine Or.inr ⟨a1, b1.1, b1.2.mp a2, fun q k k0 k1 w => ?_, fun q q1 w f => ?_⟩
    · obtain ⟨c, c1, c2, c3, _⟩ := h2 q k k0 k1 w
      rcases a3 c c1.1 c1.2 c2 with u | ⟨u, _⟩
      · omega
      · rw [u] at c3; exact c3
    · obtain ⟨c, c1, c2, c3, c4⟩ := h2 q (ln b) b1.1.1 q1 w
      have e : ln b = ln c ∧ ¬ Bf x (st c) (st b) := by
        rcases a3 c c1.1 c1.2 c2 with u | ⟨u, v⟩
        · omega
        · exact ⟨u.symm, v⟩
      refine Classical.byContradiction (fun no => e.2 (Bf_pre hx q1 f no (c4 e.1)))
/-- what the reference's loops over ranks and lengths keep -/
def Sn (x : MT) (A N : Row) (k l j l' : Int) : Prop := (0 ≤ j ∧ j < x.n) ∧ (N j < l' ∧ l' ≤ x.R (A j)) ∧ (j < k ∨ (j = k ∧ l' < l))
def MB (σ b0 : Int) (x : MT) (A N : Row) (D : Int → Int → Prop) (k l bp bl : Int) : Prop := (bp = -6 ∧ bl = b0 ∧ ∀ j l', Sn x A N k l j l' → ¬ D (A j) l') ∨ ∃ j0, Sn x A N k l j0 bl ∧ bp = A j0 ∧ D bp bl ∧ ∀ j l', Sn x A N k l j l' → D (A j) l' → σ * l' ≤ σ * bl ∧ (j < j0 → l' ≠ bl)
theorem MB_fin (hx : MOk x) {σ b0 : Int} {A N : Row} (hs : SrtOk x A N) {D : Int → Int → Prop} (hD : ∀ p q l, 1 ≤ l → Sm x p x q l → D p l → D q l) {bp bl : Int} (h : MB σ b0 x A N D x.n 0 bp bl) : (bp = -6 ∧ ∀ q k, 1 ≤ k → k ≤ x.R q → ¬ D q k) ∨ ((0 ≤ bp ∧ bp < x.n) ∧ BM σ x D bp bl) := by
  rcases h with ⟨h1, h2, h3⟩ | ⟨j0, s0, rfl, h2, h3⟩
  · refine Or.inl ⟨h1, fun q k k0 k1 w => ?_⟩
    obtain ⟨j, j1, j2, j3⟩ := rank_rep hx hs ⟨k0, k1⟩
    exact h3 j k ⟨j1, j2, Or.inl j1.2⟩ (hD _ _ k k0 (Sm_sy j3) w)
  · have nn := near_nn hx hs s0.1
    have s1 := s0.2.1
    refine Or.inr ⟨hs.1.2 j0 s0.1.1 s0.1.2, by omega, h2, fun q k k0 k1 w => ?_, fun q q1 w f => ?_⟩
    · obtain ⟨j, j1, j2, j3⟩ := rank_rep hx hs ⟨k0, k1⟩
      exact (h3 j k ⟨j1, j2, Or.inl j1.2⟩ (hD _ _ k k0 (Sm_sy j3) w)).1
    · obtain ⟨j, j1, j2, j3⟩ := rank_rep hx hs (p := q) (l := bl) ⟨by omega, q1⟩
      have u := (h3 j bl ⟨j1, j2, Or.inl j1.2⟩ (hD _ _ bl (by omega) (Sm_sy j3) w)).2
      have jj : j0 ≤ j := by
        by_cases v : j < j0
        · exact absurd rfl (u v)
        · omega
      have nb : ¬ Bf x (A j) (A j0) := by
        by_cases v : j = j0
        · rw [v]; exact Bf_ir hx _
        · exact hs.1.1 j0 j s0.1.1 (by omega) j1.2
      exact Classical.byContradiction (fun no => nb (Bf_pre hx q1 f no (Sm_sy j3)))
theorem MB_keep {σ b0 : Int} {A N : Row} {D : Int → Int → Prop} {k l bp bl : Int} (h : MB σ b0 x A N D k l bp bl) (hw : ∀ j0, bp = A j0 → Sn x A N k l j0 bl → D (A k) l → σ * l ≤ σ * bl) (hn : bl = b0 → bp = -6 → ¬ D (A k) l) : MB σ b0 x A N D k (l + 1) bp bl := by
  have sp : ∀ j l', Sn x A N k (l + 1) j l' → Sn x A N k l j l' ∨ (j = k ∧ l' = l) := by
    rintro j l' ⟨a, b, c⟩
    by_cases q : j = k ∧ l' = l
    · exact Or.inr q
    · exact Or.inl ⟨a, b, by omega⟩
  rcases h with ⟨h1, h2, h3⟩ | ⟨j0, s0, h1, h2, h3⟩
  · refine Or.inl ⟨h1, h2, fun j l' w => ?_⟩
    rcases sp j l' w with q | ⟨q1, q2⟩
    · exact h3 j l' q
    · rw [q1, q2]; exact hn h2 h1
  · refine Or.inr ⟨j0, ⟨s0.1, s0.2.1, by have := s0.2.2; omega⟩, h1, h2, fun j l' w d => ?_⟩
    rcases sp j l' w with q | ⟨q1, q2⟩
    · exact h3 j l' q d
    · rw [q1, q2] at d
      rw [q1, q2]
      exact ⟨hw j0 h1 s0 d, fun u => by have := s0.2.2; omega⟩
theorem MB_new {σ b0 : Int} {A N : Row} (hs : SrtOk x A N) {D : Int → Int → Prop} {k l bp bl : Int} (h : MB σ b0 x A N D k l bp bl) (hk : 0 ≤ k ∧ k < x.n) (hl : N k < l ∧ l ≤ x.R (A k)) (hd : D (A k) l) (hb : bp ≠ -6 → σ * bl < σ * l) : MB σ b0 x A N D k (l + 1) (A k) l := by
  refine Or.inr ⟨k, ⟨hk, hl, Or.inr ⟨rfl, by omega⟩⟩, rfl, hd, fun j l' w d => ?_⟩
  by_cases q : j = k ∧ l' = l
  · rw [q.1, q.2]; exact ⟨Int.le_refl _, fun u => by omega⟩
  · have w' : Sn x A N k l j l' := ⟨w.1, w.2.1, by have := w.2.2; omega⟩
    rcases h with ⟨h1, h2, h3⟩ | ⟨j0, s0, h1, h2, h3⟩
    · exact absurd d (h3 j l' w')
    · have u := (h3 j l' w' d).1
      by_cases v : bp = -6
      · have := hs.1.2 j0 s0.1.1 s0.1.2
        omega
      · have := hb v
        exact ⟨by omega, fun _ e => by rw [e] at u; omega⟩
theorem MB_next (hx : MOk x) {σ b0 : Int} {A N : Row} (hs : SrtOk x A N) {D : Int → Int → Prop} {k l bp bl : Int} (h : MB σ b0 x A N D k l bp bl) (hl : x.R (A k) < l) : MB σ b0 x A N D (k + 1) 0 bp bl := by
  have eq : ∀ j l', Sn x A N (k + 1) 0 j l' → Sn x A N k l j l' := by
    rintro j l' ⟨a, b, c⟩
    refine ⟨a, b, ?_⟩
    have := near_nn hx hs a
    by_cases q : j = k
    · rw [q] at b; omega
    · omega
  have eq2 : ∀ j l', Sn x A N k l j l' → Sn x A N (k + 1) 0 j l' := by
    rintro j l' ⟨a, b, c⟩
    exact ⟨a, b, Or.inl (by omega)⟩
  rcases h with ⟨h1, h2, h3⟩ | ⟨j0, s0, h1, h2, h3⟩
  · exact Or.inl ⟨h1, h2, fun j l' w => h3 j l' (eq j l' w)⟩
  · exact Or.inr ⟨j0, eq2 j0 bl s0, h1, h2, fun j l' w d => h3 j l' (eq j l' w) d⟩
theorem MB_start {σ b0 : Int} {A N : Row} {D : Int → Int → Prop} {k bp bl : Int} (h : MB σ b0 x A N D k 0 bp bl) (hN : 0 ≤ N k) : MB σ b0 x A N D k (N k + 1) bp bl := by
  have eq : ∀ j l', Sn x A N k (N k + 1) j l' → Sn x A N k 0 j l' := by
    rintro j l' ⟨a, b, c⟩
    refine ⟨a, b, ?_⟩
    by_cases q : j = k
    · rw [q] at b; omega
    · omega
  have eq2 : ∀ j l', Sn x A N k 0 j l' → Sn x A N k (N k + 1) j l' := by
    rintro j l' ⟨a, b, c⟩
    exact ⟨a, b, by omega⟩
  rcases h with ⟨h1, h2, h3⟩ | ⟨j0, s0, h1, h2, h3⟩
  · exact Or.inl ⟨h1, h2, fun j l' w => h3 j l' (eq j l' w)⟩
  · exact Or.inr ⟨j0, eq2 j0 bl s0, h1, h2, fun j l' w d => h3 j l' (eq j l' w) d⟩
end BS
