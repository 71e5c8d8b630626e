/-! both tables side by side -/
section PA
variable {n : Nat} {x : MT} {m : MtS}
theorem Cl_un (hx : MOk x) {N : Int} {E S G : Row} (h : CT x N E S G) {e l c d : Int} (hl : 1 ≤ l) (a : Cl x N E S G e l c) (b : Cl x N E S G e l d) : c = d := by
  have key : ∀ c d, Cl x N E S G e l c → Cl x N E S G e l d → ¬ E c < E d := by
    intro c d a b q
    have c1 := (h.2.1 c a.1.1 a.1.2).1
    have d1 := (h.2.1 d b.1.1 b.1.2).1
    have := (kn_ok hx (E d)).2.1 (E c) c1.1.1 q
    have t := cs_tr hx (a := E d) (b := e) (c := E c) (l := l) (by omega) (by rw [cs_sy hx]; exact b.2.2) a.2.2
    have := d1.2.1
    have := b.2.1
    omega
  have k1 := key c d a b
  have k2 := key d c b a
  exact Has_un h.2.2.1 (e := E c) (l := l) ⟨a.1, rfl, a.2.1⟩ ⟨b.1, by omega, b.2.1⟩
theorem e_mclassAt (hn : 1000 ≤ n) (h : MX 0 x m) {c : McS} (hc : McOk x c) {p l : Int} (hl : 1 ≤ l ∧ l ≤ x.R p) : Ok (p_X7_classAt n m c p l) (fun r => Cl x c.classes c.classLast c.classShort c.classLong (p + l - 1) l r) := by
  have hx := h.1
  have nn := hx.1
  have hp := R_in hx (p := p) (by omega)
  have rr := R_le hx p
  obtain ⟨ct, _, most⟩ := hc
  have N0 := ct.1
  unfold p_X7_classAt
  refine ok_bd (e_firstPlace hn h hl) ?_
  rintro f ⟨f1, f2, f3⟩
  have rp := R_P hx ⟨hl.1, f2.2.1⟩
  have kf := (Kn_fst hx (e := f + l - 1) (k := kn x (f + l - 1)) (l := l) rp.2.1 (kn_ok hx _) hl.1).mp (by
    rw [show f + l - 1 - l + 1 = f by omega]
    exact ⟨⟨hl.1, f2.2.1⟩, fun q a b s => f3 q a b (Sm_tr f2 (Sm_sy s))⟩)
  obtain ⟨k, hk⟩ := ct.2.2.2 (f + l - 1) l rp.2.1.1 rp.2.1.2 kf.1 kf.2
  have cf := (Sm_cs hx hl.1).mp f2
  refine ok_bd (P := fun r => ∃ j, r = .inl j ∧ Has c.classes c.classLast c.classShort c.classLong (f + l - 1) l j) ?_ ?_
  · refine ok_lpJ (fun z => (0 ≤ z ∧ z ≤ c.classes) ∧ ∀ j, 0 ≤ j → j < z → ¬ Has c.classes c.classLast c.classShort c.classLong (f + l - 1) l j) (fun z => c.classes - z) ?_ n _ ⟨by omega, fun j a b => by omega⟩ (by omega)
    rintro z ⟨hz, hs⟩
    refine ⟨by omega, ?_⟩
    unfold p_X7_classAt_b14
    rw [ck_w (by omega), ck_w (by omega)]
    refine ok_ite (fun d => ?_) (fun d => ?_)
    · have c1 := (ct.2.1 z hz.1 d).1
      have p1 := P_in hx (c.classLast z)
      have k1 := (kn_ok hx (c.classLast z)).1
      have c11 := c1.1
      have c12 := c1.2.1
      rw [ix_of (by omega), ck_w (by omega), ck_w (by omega)]
      have nxt : ¬ Has c.classes c.classLast c.classShort c.classLong (f + l - 1) l z → Ok (some (Sum.inl (z + 1))) (LI (fun z => (0 ≤ z ∧ z ≤ c.classes) ∧ ∀ j, 0 ≤ j → j < z → ¬ Has c.classes c.classLast c.classShort c.classLong (f + l - 1) l j) (fun z => c.classes - z) (c.classes - z) (fun r : Int ⊕ Unit => ∃ j, r = .inl j ∧ Has c.classes c.classLast c.classShort c.classLong (f + l - 1) l j)) := by
        intro w
        refine ok_so ⟨⟨by omega, fun j a b => ?_⟩, by dsimp only; omega⟩
        by_cases q : j = z
        · rw [q]; exact w
        · exact hs j a (by omega)
      refine ok_ite (fun g => ?_) (fun g => ?_)
      · rw [e_in (by unfold InR; omega) (by unfold InR; omega) (by unfold InR; omega), so_bd]
        by_cases w : c.classShort z ≤ l ∧ l ≤ c.classLong z
        · rw [if_pos w, ck_w (by omega), if_neg (by omega)]
          exact ok_so ⟨z, rfl, ⟨hz.1, d⟩, g, w⟩
        · rw [if_neg w, ck_w (by omega), if_pos rfl]
          exact nxt (fun q => w q.2.2)
      · exact nxt (fun q => g q.2.1)
    · exact absurd hk (hs k hk.1.1 (by have := hk.1.2; omega))
  · rintro r ⟨j, rfl, hj⟩
    refine ok_so ⟨hj.1, hj.2.2, ?_⟩
    rw [hj.2.1]; exact cf.2.2
/-- the letters that follow a stretch -/
def NX (x : MT) (p l s : Int) : Prop := BS (fun q => x.L (q + l)) (fun q => (0 ≤ q ∧ q < x.n) ∧ Sm x q x p l ∧ l < x.R q) s
theorem e_nextOf (hn : 1000 ≤ n) (h : MX 0 x m) {p l : Int} (hl : 1 ≤ l ∧ l ≤ x.R p) : Ok (p_X7_nextOf n m p l) (NX x p l) := by
  have hx := h.1
  have nn := hx.1
  have hm : m.many 0 = x.n := h.2.1
  have hp := R_in hx (p := p) (by omega)
  have rr := R_le hx p
  unfold p_X7_nextOf
  refine ok_bd (P := NX x p l) ?_ (fun r hr => ok_so hr)
  refine ok_lpJ (fun z => (0 ≤ z.2 ∧ z.2 ≤ x.n) ∧ BS (fun q => x.L (q + l)) (fun q => (0 ≤ q ∧ q < z.2) ∧ Sm x q x p l ∧ l < x.R q) z.1) (fun z => x.n - z.2) ?_ n _ ⟨by dsimp only; omega, BS_0 (fun q w => by have := w.1; dsimp only at this; omega)⟩ (by dsimp only; omega)
  rintro ⟨s, z⟩ ⟨hz, hs⟩
  dsimp only at hz hs ⊢
  refine ⟨by omega, ?_⟩
  unfold p_X7_nextOf_b5
  dsimp only
  rw [hm, ck_w (by omega), ck_w (by omega)]
  refine ok_ite (fun d => ?_) (fun d => ok_so (by rw [show z = x.n by omega] at hs; exact hs))
  have no : ¬ (Sm x z x p l ∧ l < x.R z) → BS (fun q => x.L (q + l)) (fun q => (0 ≤ q ∧ q < z + 1) ∧ Sm x q x p l ∧ l < x.R q) (bior s 0) := by
    intro w
    rw [bior_0 hs.1]
    refine BS_cg hs (fun q => ?_)
    constructor
    · rintro ⟨a, b⟩
      have : q ≠ z := fun e => w (by rw [← e]; exact b)
      exact ⟨by omega, b⟩
    · rintro ⟨a, b⟩
      exact ⟨by omega, b⟩
  obtain ⟨q1, q2⟩ := e_isSame hn h (p := p) (q := z) (l := l) hp (by omega) (by omega)
  by_cases w : Sm x p x z l
  · have rz := R_le hx z
    have rz0 := R_nn hx z
    rw [q1 w, so_bd, ck_w (by omega), if_neg (by omega), e_rest (Or.inl rfl) h (by omega), so_bd, ck_w (by omega), ck_w (by omega)]
    refine ok_ite (fun g => ?_) (fun g => ?_)
    · have hb := hx.2.1 z hz.1 d
      have ll := L_in hx (z + l)
      rw [e_mletterAt h (by omega), so_bd]
      refine ok_so ⟨⟨by dsimp only; omega, BS_add (f := fun q => x.L (q + l)) (e := z) (by omega) hs (fun q => ?_)⟩, by dsimp only; omega⟩
      dsimp only
      constructor
      · rintro ⟨a, b⟩
        by_cases e : q = z
        · exact Or.inr e
        · exact Or.inl ⟨by omega, b⟩
      · rintro (⟨a, b⟩ | e)
        · exact ⟨by omega, b⟩
        · rw [e]; exact ⟨by omega, Sm_sy w, g⟩
    · exact ok_so ⟨⟨by dsimp only; omega, no (fun q => g q.2)⟩, by dsimp only; omega⟩
  · rw [q2 w, so_bd, ck_w (by omega), if_pos rfl]
    exact ok_so ⟨⟨by dsimp only; omega, no (fun q => w (Sm_sy q.1))⟩, by dsimp only; omega⟩
theorem NX_SS (hx : MOk x) {e l s t : Int} (he : 0 ≤ e ∧ e < x.n) (hl : 1 ≤ l) (h : SS x e l s) (k : NX x (e - l + 1) l t) : s = t := by
  refine BS_un h k (fun v => ?_)
  constructor
  · rintro ⟨d, ⟨d1, d2, d3⟩, dv⟩
    have s := (cs_Sm hx d1 he hl).mp d2
    have rp := R_P hx ⟨hl, s.1⟩
    rw [show d - l + 1 + l - 1 = d by omega] at rp
    refine ⟨d - l + 1, ⟨rp.1, s, by omega⟩, ?_⟩
    show x.L (d - l + 1 + l) = v
    rw [show d - l + 1 + l = d + 1 by omega]; exact dv
  · rintro ⟨q, ⟨q1, q2, q3⟩, qv⟩
    have rp := R_P hx ⟨hl, q2.1⟩
    refine ⟨q + l - 1, ⟨rp.2.1, (cs_Sm hx rp.2.1 he hl).mpr ?_, by omega⟩, ?_⟩
    · rw [show q + l - 1 - l + 1 = q by omega]; exact q2
    · show x.L (q + l - 1 + 1) = v
      rw [show q + l - 1 + 1 = q + l by omega]; exact qv
def WX (x : MT) (p l s : Int) : Prop := BS x.W (fun q => (0 ≤ q ∧ q < x.n) ∧ Sm x q x p l) s
theorem WX_WS (hx : MOk x) {e l s t : Int} (he : 0 ≤ e ∧ e < x.n) (hl : 1 ≤ l) (h : WS x e l s) (k : WX x (e - l + 1) l t) : s = t := by
  refine BS_un h k (fun v => ?_)
  constructor
  · rintro ⟨d, ⟨d1, d2⟩, dv⟩
    have s := (cs_Sm hx d1 he hl).mp d2
    have rp := R_P hx ⟨hl, s.1⟩
    rw [show d - l + 1 + l - 1 = d by omega] at rp
    exact ⟨d - l + 1, ⟨rp.1, s⟩, by rw [← rp.2.2.2.2.1]; exact dv⟩
  · rintro ⟨q, ⟨q1, q2⟩, qv⟩
    have rp := R_P hx ⟨hl, q2.1⟩
    refine ⟨q + l - 1, ⟨rp.2.1, (cs_Sm hx rp.2.1 he hl).mpr ?_⟩, by rw [rp.2.2.2.2.1]; exact qv⟩
    rw [show q + l - 1 - l + 1 = q by omega]; exact q2
theorem WS_cs (hx : MOk x) {e d l s : Int} (hl : 0 ≤ l) (h : l ≤ cs x e x d) (k : WS x e l s) : WS x d l s := BS_cg k (fun p => ⟨fun ⟨a, b⟩ => ⟨a, cs_tr hx hl b (by rw [cs_sy hx]; exact h)⟩, fun ⟨a, b⟩ => ⟨a, cs_tr hx hl b h⟩⟩)
theorem e_wordsOfClass (hn : 1000 ≤ n) (h : MX 0 x m) {c : McS} (hc : McOk x c) {v : Int} (hv : 0 ≤ v ∧ v < c.classes) : Ok (p_X7_wordsOfClass n m c v) (WX x (c.classLast v - c.classLong v + 1) (c.classLong v)) := by
  have hx := h.1
  have nn := hx.1
  have hm : m.many 0 = x.n := h.2.1
  obtain ⟨ct, _, most⟩ := hc
  have c1 := (ct.2.1 v hv.1 hv.2).1
  have k1 := (kn_ok hx (c.classLast v)).1
  have c11 := c1.1
  have c12 := c1.2.1
  have p1 := P_in hx (c.classLast v)
  have pr := P_R hx c11 (l := c.classLong v) (by omega)
  unfold p_X7_wordsOfClass
  refine ok_bd (P := WX x (c.classLast v - c.classLong v + 1) (c.classLong v)) ?_ (fun r hr => ok_so hr)
  refine ok_lpJ (fun z => (0 ≤ z.2 ∧ z.2 ≤ x.n) ∧ BS x.W (fun q => (0 ≤ q ∧ q < z.2) ∧ Sm x q x (c.classLast v - c.classLong v + 1) (c.classLong v)) z.1) (fun z => x.n - z.2) ?_ n _ ⟨by dsimp only; omega, BS_0 (fun q w => by have := w.1; dsimp only at this; omega)⟩ (by dsimp only; omega)
  rintro ⟨s, z⟩ ⟨hz, hs⟩
  dsimp only at hz hs ⊢
  refine ⟨by omega, ?_⟩
  unfold p_X7_wordsOfClass_b4 p_X7_firstOf
  dsimp only
  rw [hm, ck_w (by omega), ck_w (by omega)]
  refine ok_ite (fun d => ?_) (fun d => ok_so (by rw [show z = x.n by omega] at hs; exact hs))
  rw [ix_of (by omega), so_bd, ix_of (by omega)]
  obtain ⟨q1, q2⟩ := e_isSame hn h (p := c.classLast v - c.classLong v + 1) (q := z) (l := c.classLong v) pr.1 (by omega) (by omega)
  by_cases w : Sm x (c.classLast v - c.classLong v + 1) x z (c.classLong v)
  · have ww := W_in hx z
    rw [q1 w, so_bd, ck_w (by omega), if_neg (by omega), ix_of (by omega), e_mwordOf h (by omega)]
    refine ok_so ⟨⟨by dsimp only; omega, BS_add (e := z) (by omega) hs (fun q => ?_)⟩, by dsimp only; omega⟩
    dsimp only
    constructor
    · rintro ⟨a, b⟩
      by_cases e : q = z
      · exact Or.inr e
      · exact Or.inl ⟨by omega, b⟩
    · rintro (⟨a, b⟩ | e)
      · exact ⟨by omega, b⟩
      · rw [e]; exact ⟨by omega, Sm_sy w⟩
  · rw [q2 w, so_bd, ck_w (by omega), if_pos rfl, bior_0 hs.1]
    refine ok_so ⟨⟨by dsimp only; omega, BS_cg hs (fun q => ?_)⟩, by dsimp only; omega⟩
    dsimp only
    constructor
    · rintro ⟨a, b⟩
      have : q ≠ z := fun e => w (by rw [← e]; exact Sm_sy b)
      exact ⟨by omega, b⟩
    · rintro ⟨a, b⟩
      exact ⟨by omega, b⟩
theorem e_linkOf (hn : 1000 ≤ n) (h : MX 0 x m) {c : McS} (hc : McOk x c) {v : Int} (hv : 0 ≤ v ∧ v < c.classes) : Ok (p_X7_linkOf n m c v) (fun r => (c.classShort v = 1 ∧ r = -6) ∨ (1 < c.classShort v ∧ Cl x c.classes c.classLast c.classShort c.classLong (c.classLast v) (c.classShort v - 1) r)) := by
  have hx := h.1
  have nn := hx.1
  obtain ⟨ct, _, most⟩ := id hc
  have c1 := (ct.2.1 v hv.1 hv.2).1
  have k1 := (kn_ok hx (c.classLast v)).1
  have c11 := c1.1
  have c12 := c1.2.1
  have p1 := P_in hx (c.classLast v)
  unfold p_X7_linkOf
  rw [ix_of (by omega), ck_w (by omega)]
  refine ok_ite (fun d => ok_so (Or.inl ⟨by omega, rfl⟩)) (fun d => ?_)
  have pr := P_R hx c11 (l := c.classShort v - 1) (by omega)
  refine ok_bd (e_mclassAt hn h hc (p := c.classLast v - (c.classShort v - 1) + 1) (l := c.classShort v - 1) ⟨by omega, pr.2.2.1⟩) (fun r hr => ok_so (Or.inr ⟨by omega, ?_⟩))
  rw [show c.classLast v - (c.classShort v - 1) + 1 + (c.classShort v - 1) - 1 = c.classLast v by omega] at hr
  exact hr
/-- the two tables of one text -/
def Two (x : MT) (C : ClsS) (c : McS) : Prop := ClsOk x C ∧ McOk x c ∧ C.size = c.classes ∧ ∀ k, 0 ≤ k → k < c.classes → C.firstEnds k = c.classLast k ∧ C.shortest k = c.classShort k ∧ C.longest k = c.classLong k
theorem Two_of (hx : MOk x) {C : ClsS} {c : McS} (h : ClsOk x C) (k : McOk x c) : Two x C c := by
  have := CT_un (ClsOk_CT hx h) k.1
  exact ⟨h, k, this.1, fun i a b => this.2 i a (by omega)⟩
theorem Two_Cl (hx : MOk x) {C : ClsS} {c : McS} (h : Two x C c) {e l k : Int} (a : Cl x C.size C.firstEnds C.shortest C.longest e l k) : Cl x c.classes c.classLast c.classShort c.classLong e l k := by
  obtain ⟨h1, h2, h3, h4⟩ := h
  obtain ⟨q1, q2, q3⟩ := h4 k a.1.1 (by have := a.1.2; omega)
  unfold Cl at a ⊢
  rw [h3, q1, q2, q3] at a
  exact a
theorem Two_un (hx : MOk x) {C : ClsS} {c : McS} (h : Two x C c) {e l k k' : Int} (hl : 1 ≤ l) (a : Cl x C.size C.firstEnds C.shortest C.longest e l k) (b : Cl x c.classes c.classLast c.classShort c.classLong e l k') : k = k' := Cl_un hx h.2.1.1 hl (Two_Cl hx h a) b
end PA
