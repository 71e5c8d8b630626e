/-! sets of small numbers in an int -/
def BS (f : Int → Int) (A : Int → Prop) (s : Int) : Prop := InR s ∧ ∀ k, k < 32 → (tb s k = true ↔ ∃ p, A p ∧ f p = k)
theorem BS_0 {f : Int → Int} {A : Int → Prop} (h : ∀ p, ¬ A p) : BS f A 0 := ⟨by unfold InR; omega, fun k hk => by
  rw [tb_0]
  exact ⟨fun q => (by cases q), fun ⟨p, hp, _⟩ => absurd hp (h p)⟩⟩
theorem BS_add {f : Int → Int} {C D : Int → Prop} {s e : Int} (he : 0 ≤ f e ∧ f e < 8) (h : BS f C s) (hD : ∀ p, D p ↔ C p ∨ p = e) : BS f D (bior s (bishl 1 (f e))) := by
  refine ⟨inR_or _ _, fun k hk => ?_⟩
  rw [tb_or, Bool.or_eq_true, h.2 k hk, tb_shl he hk]
  constructor
  · rintro (⟨p, hp, hw⟩ | hw)
    · exact ⟨p, (hD p).mpr (Or.inl hp), hw⟩
    · exact ⟨e, (hD e).mpr (Or.inr rfl), hw.symm⟩
  · rintro ⟨p, hp, hw⟩
    rcases (hD p).mp hp with c | c
    · exact Or.inl ⟨p, c, hw⟩
    · exact Or.inr (by rw [← c]; exact hw.symm)
theorem BS_cg {f : Int → Int} {C D : Int → Prop} {s : Int} (h : BS f C s) (hD : ∀ p, D p ↔ C p) : BS f D s := by
  refine ⟨h.1, fun k hk => ?_⟩
  rw [h.2 k hk]
  constructor
  · rintro ⟨p, hp, hw⟩; exact ⟨p, (hD p).mpr hp, hw⟩
  · rintro ⟨p, hp, hw⟩; exact ⟨p, (hD p).mp hp, hw⟩
theorem BS_un {f g : Int → Int} {A B : Int → Prop} {s t : Int} (h : BS f A s) (k : BS g B t) (e : ∀ v, (∃ p, A p ∧ f p = v) ↔ ∃ q, B q ∧ g q = v) : s = t := by
  refine tb_ext h.1 k.1 (fun i hi => ?_)
  have : tb s i = true ↔ tb t i = true := by rw [h.2 i hi, k.2 i hi]; exact e i
  cases hs : tb s i <;> cases ht : tb t i <;> simp_all
theorem bior_0 {s : Int} (h : InR s) : bior s 0 = s := tb_ext (inR_or _ _) h (fun k _ => by rw [tb_or, tb_0, Bool.or_false])
/-! the component's tables -/
section CP
variable {n : Nat} {x : MT} {t : TxtS}
def Cl (x : MT) (N : Int) (E S G : Row) (e l c : Int) : Prop := (0 ≤ c ∧ c < N) ∧ (S c ≤ l ∧ l ≤ G c) ∧ l ≤ cs x e x (E c)
def WS (x : MT) (e l s : Int) : Prop := BS x.W (fun d => (0 ≤ d ∧ d < x.n) ∧ l ≤ cs x d x e) s
def SS (x : MT) (e l s : Int) : Prop := BS (fun d => x.L (d + 1)) (fun d => (0 ≤ d ∧ d < x.n) ∧ l ≤ cs x d x e ∧ 1 < x.R d) s
def RW (x : MT) (C : ClsS) (c : Int) : Prop := C1 x C.firstEnds C.shortest C.longest c ∧ C2 x C.firstEnds C.longest c ∧ C.ends c = ce x (C.firstEnds c) (C.longest c) ∧ ((C.shortest c = 1 ∧ C.links c = -6) ∨ (1 < C.shortest c ∧ Cl x C.size C.firstEnds C.shortest C.longest (C.firstEnds c) (C.shortest c - 1) (C.links c))) ∧ WS x (C.firstEnds c) (C.longest c) (C.wordSets c) ∧ SS x (C.firstEnds c) (C.longest c) (C.stepSets c)
def Bfo (e s e' l : Int) : Prop := e' < e ∨ (e' = e ∧ l < s)
def TB (x : MT) (e s : Int) (C : ClsS) : Prop := 0 ≤ C.size ∧ (∀ c, 0 ≤ c → c < C.size → RW x C c ∧ Bfo e s (C.firstEnds c) (C.longest c)) ∧ Ord C.firstEnds C.shortest C.longest C.size ∧ (∀ e' l, 0 ≤ e' → e' < x.n → kn x e' < l → l ≤ x.P e' + 1 → Bfo e s e' l → ∃ c, Has C.size C.firstEnds C.shortest C.longest e' l c) ∧ (∀ e' l, 0 ≤ e' → e' < x.n → 1 ≤ l → l ≤ x.P e' + 1 → Bfo e s e' l → Cl x C.size C.firstEnds C.shortest C.longest e' l (C.classOf e' l))
def SameT (C D : ClsS) : Prop := D.size = C.size ∧ D.firstEnds = C.firstEnds ∧ D.shortest = C.shortest ∧ D.longest = C.longest ∧ D.ends = C.ends ∧ D.links = C.links ∧ D.wordSets = C.wordSets ∧ D.stepSets = C.stepSets
def SameR (C D : ClsS) : Prop := D.endCounts = C.endCounts ∧ D.letterSet = C.letterSet ∧ D.version = C.version
theorem TB_of {e s e' s' : Int} {C D : ClsS} (h : TB x e s C) (k : SameT C D) (g : ∀ a l, Bfo e' s' a l → 1 ≤ l → l ≤ x.P a + 1 → 0 ≤ a → a < x.n → (Bfo e s a l ∧ D.classOf a l = C.classOf a l) ∨ (l ≤ kn x a ∧ Cl x C.size C.firstEnds C.shortest C.longest a l (D.classOf a l))) (hx : MOk x) (g2 : ∀ a l, Bfo e s a l → 1 ≤ l → l ≤ x.P a + 1 → Bfo e' s' a l) : TB x e' s' D := by
  obtain ⟨h1, h2, h3, h4, h5⟩ := h
  obtain ⟨k1, k2, k3, k4, k5, k6, k7, k8⟩ := k
  unfold TB RW
  rw [k1, k2, k3, k4, k5, k6, k7, k8]
  refine ⟨h1, fun c a b => ?_, h3, fun a l a0 a1 a2 a3 a4 => ?_, fun a l a0 a1 a2 a3 a4 => ?_⟩
  · have q := h2 c a b
    refine ⟨q.1, g2 _ _ q.2 ?_ q.1.1.2.1.2.2⟩
    have := (kn_ok hx (C.firstEnds c)).1
    have := q.1.1.2.1
    omega
  · have := (kn_ok hx a).1
    rcases g a l a4 (by omega) a3 a0 a1 with w | w
    · exact h4 a l a0 a1 a2 a3 w.1
    · omega
  · rcases g a l a4 a2 a3 a0 a1 with w | w
    · rw [w.2]; exact h5 a l a0 a1 a2 a3 w.1
    · exact w.2
theorem e_classAt {C : ClsS} {e l : Int} (he : 0 ≤ e ∧ e < 60) (hl : 0 ≤ l ∧ l ≤ 60) : p_X1_classAt C e l = some (C.classOf e l) := by
  unfold p_X1_classAt p_X1_classAt_j25
  rw [ck_w (by omega), if_neg (by omega), if_pos he.2, ck_w (by omega), if_neg (by omega), if_neg (by omega), ck_w (by omega), if_neg (by omega), ix_of he, ix_of (by omega)]
theorem e_put {C : ClsS} {e l c : Int} (he : 0 ≤ e ∧ e < 60) (hl : 0 ≤ l ∧ l ≤ 60) : Ok (p_X1_putClass C e l c) (fun D => SameT C D ∧ SameR C D ∧ D.classOf e l = c ∧ ∀ a m, ¬ (a = e ∧ m = l) → D.classOf a m = C.classOf a m) := by
  unfold p_X1_putClass
  rw [ck_w (by omega), if_neg (by omega), if_pos he.2, ck_w (by omega), if_neg (by omega), if_neg (by omega), ix_of he, ix_of (by omega)]
  refine ok_so ⟨⟨rfl, rfl, rfl, rfl, rfl, rfl, rfl, rfl⟩, ⟨rfl, rfl, rfl⟩, ?_, fun a m q => ?_⟩
  · show up2 _ e _ e l = c
    unfold up2
    rw [if_pos rfl, up_s]
  · show up2 _ e _ a m = _
    unfold up2
    by_cases w : a = e
    · rw [if_pos w, up_n _ _ (fun g => q ⟨w, g⟩), w]
    · rw [if_neg w]
/-- the ends of every length, counted -/
theorem e_countEnds (hn : 1000 ≤ n) (hx : MOk x) {S : SwpS} {C : ClsS} {e : Int} (he : 0 ≤ e ∧ e < x.n) (hS : ∀ i, 0 ≤ i → i < x.n → S i = cs x e x i) : Ok (p_X1_countEnds n C S x.n (x.P e + 1)) (fun D => SameT C D ∧ D.classOf = C.classOf ∧ D.letterSet = C.letterSet ∧ D.version = C.version ∧ ∀ l, 0 ≤ l → l ≤ x.P e + 1 → D.endCounts l = ce x e l) := by
  have nn := hx.1
  have pp := P_in hx e
  unfold p_X1_countEnds
  refine ok_bd (P := fun r => ∀ l, 0 ≤ l → l ≤ x.P e + 1 → r l = 0) ?_ (fun r hr => ?_)
  · refine ok_lpJ (fun z => (0 ≤ z.1 ∧ z.1 ≤ x.P e + 2) ∧ ∀ l, 0 ≤ l → l < z.1 → z.2 l = 0) (fun z => x.P e + 2 - z.1) ?_ n _ ⟨by dsimp only; omega, fun l a b => by dsimp only at b; omega⟩ (by dsimp only; omega)
    rintro ⟨k, r⟩ ⟨hk, hr⟩
    dsimp only at hk hr ⊢
    refine ⟨by omega, ?_⟩
    unfold p_X1_countEnds_b2
    dsimp only
    rw [ck_w (by omega), ck_w (by omega)]
    refine ok_ite (fun c => ok_so (fun l a b => hr l a (by omega))) (fun c => ?_)
    rw [if_pos (by omega), ix_of (by omega)]
    refine ok_so ⟨⟨by dsimp only; omega, fun l a b => ?_⟩, by dsimp only; omega⟩
    dsimp only at b ⊢
    by_cases q : l = k
    · rw [q, up_s]
    · rw [up_n _ _ q]; exact hr l a (by omega)
  · refine ok_bd (P := fun r => ∀ l, 0 ≤ l → l ≤ x.P e + 1 → r l = sm (fun d => ind (cs x d x e = l)) x.n) ?_ (fun r hr => ?_)
    · refine ok_lpJ (fun z => (0 ≤ z.1 ∧ z.1 ≤ x.n) ∧ ∀ l, 0 ≤ l → l ≤ x.P e + 1 → z.2 l = sm (fun d => ind (cs x d x e = l)) z.1) (fun z => x.n - z.1) ?_ n _ ⟨by dsimp only; omega, fun l a b => by dsimp only; rw [sm_0 (Int.le_refl 0)]; exact hr l a b⟩ (by dsimp only; omega)
      rintro ⟨k, r⟩ ⟨hk, hr⟩
      dsimp only at hk hr ⊢
      refine ⟨by omega, ?_⟩
      unfold p_X1_countEnds_b31
      dsimp only
      rw [ck_w (by omega), ck_w (by omega)]
      refine ok_ite (fun c => ?_) (fun c => ok_so (by rw [show k = x.n by omega] at hr; exact hr))
      have c0 := cs_nn hx hx e k
      have c1 := cs_le hx hx e k
      unfold p_X4_lengthAt
      rw [ck_w (by omega), if_neg (by omega), if_pos (by omega), ix_of (by omega), so_bd, hS k hk.1 c, ck_w (by omega), if_neg (by omega), if_pos (by omega), ix_of (by omega)]
      refine ok_so ⟨⟨by dsimp only; omega, fun l a b => ?_⟩, by dsimp only; omega⟩
      dsimp only
      rw [sm_s hk.1, cs_sy hx k e]
      by_cases q : l = cs x e x k
      · rw [q, up_s, ind_t rfl, hr _ (by omega) (by omega)]
      · rw [up_n _ _ q, ind_f (fun w => q w.symm), hr l a b]; omega
    · rw [ck_w (by omega), ck_w (by omega)]
      have top : ce x e (x.P e + 1) = sm (fun d => ind (cs x d x e = x.P e + 1)) x.n := sm_cg (fun d a b => ind_i ⟨fun q => by have := cs_le hx hx d e; omega, fun q => by omega⟩)
      refine ok_bd (P := fun r => ∀ l, 0 ≤ l → l ≤ x.P e + 1 → r l = ce x e l) ?_ (fun r hr => ok_so ⟨⟨rfl, rfl, rfl, rfl, rfl, rfl, rfl, rfl⟩, rfl, rfl, rfl, hr⟩)
      refine ok_lpJ (fun z => (-1 ≤ z.1 ∧ z.1 ≤ x.P e) ∧ (∀ l, z.1 < l → l ≤ x.P e + 1 → z.2 l = ce x e l) ∧ (∀ l, 0 ≤ l → l ≤ z.1 → z.2 l = sm (fun d => ind (cs x d x e = l)) x.n)) (fun z => z.1 + 1) ?_ n _ ⟨by dsimp only; omega, fun l a b => ?_, fun l a b => by dsimp only at b ⊢; exact hr l a (by omega)⟩ (by dsimp only; omega)
      · rintro ⟨k, r⟩ ⟨hk, h1, h2⟩
        dsimp only at hk h1 h2 ⊢
        refine ⟨by omega, ?_⟩
        unfold p_X1_countEnds_b92
        dsimp only
        rw [ck_w (by omega)]
        refine ok_ite (fun c => ok_so (fun l a b => h1 l (by omega) b)) (fun c => ?_)
        rw [ix_of (by omega), ix_of (by omega)]
        refine ok_so ⟨⟨by dsimp only; omega, fun l a b => ?_, fun l a b => ?_⟩, by dsimp only; omega⟩
        · dsimp only at a ⊢
          by_cases q : l = k
          · rw [q, up_s, h1 (k + 1) (by omega) (by omega), h2 k (by omega) (by omega)]
            unfold ce
            rw [← sm_add]
            refine sm_cg (fun d _ _ => ?_)
            by_cases w : cs x d x e = k
            · rw [ind_t w, ind_f (by omega), ind_t (by omega)]; rfl
            · by_cases w2 : k + 1 ≤ cs x d x e
              · rw [ind_f w, ind_t w2, ind_t (by omega)]; rfl
              · rw [ind_f w, ind_f w2, ind_f (by omega)]; rfl
          · rw [up_n _ _ q]; exact h1 l (by omega) b
        · dsimp only at b ⊢
          rw [up_n _ _ (by omega)]; exact h2 l a (by omega)
      · dsimp only at a ⊢
        rw [show l = x.P e + 1 by omega, top]; exact hr _ (by omega) (by omega)
/-- what stands at an earlier place is taken over -/
theorem e_takeKnown (hn : 1000 ≤ n) (hx : MOk x) {S : SwpS} {C : ClsS} {e : Int} (he : 0 ≤ e ∧ e < x.n) (hS : ∀ i, 0 ≤ i → i < x.n → S i = cs x e x i) (h : TB x e 1 C) : Ok (p_X1_takeKnown n C S e) (fun r => r.1 = kn x e ∧ TB x e (kn x e + 1) r.2 ∧ SameR C r.2) := by
  have nn := hx.1
  have pp := P_in hx e
  have K := kn_ok hx e
  have kl := Kn_le hx K
  unfold p_X1_takeKnown
  refine ok_bd (P := fun r => r.1 = kn x e ∧ (0 < kn x e → (0 ≤ r.2 ∧ r.2 < e) ∧ cs x e x r.2 = kn x e)) ?_ ?_
  · refine ok_lpJ (fun z => (0 ≤ z.2.2 ∧ z.2.2 ≤ e) ∧ 0 ≤ z.1 ∧ (∀ i, 0 ≤ i → i < z.2.2 → cs x e x i ≤ z.1) ∧ (z.1 = 0 ∨ ((0 ≤ z.2.1 ∧ z.2.1 < z.2.2) ∧ cs x e x z.2.1 = z.1))) (fun z => e - z.2.2) ?_ n _ ⟨by dsimp only; omega, by dsimp only; omega, fun i a b => by dsimp only at b; omega, Or.inl rfl⟩ (by dsimp only; omega)
    rintro ⟨b, a, k⟩ ⟨hk, hb, h1, h2⟩
    dsimp only at hk hb h1 h2 ⊢
    refine ⟨by omega, ?_⟩
    unfold p_X1_takeKnown_b7
    dsimp only
    rw [ck_w (by omega), ck_w (by omega)]
    have bb : b ≤ 60 := by
      rcases h2 with w | w
      · omega
      · have := cs_le hx hx e a; omega
    refine ok_ite (fun c => ?_) (fun c => ?_)
    · have c0 := cs_nn hx hx e k
      have c1 := cs_le hx hx e k
      have el : p_X4_lengthAt S k = some (cs x e x k) := by
        unfold p_X4_lengthAt
        rw [ck_w (by omega), if_neg (by omega), if_pos (by omega), ix_of (by omega), hS k hk.1 (by omega)]
      rw [el, so_bd, ck_w (by omega), ck_w (by omega)]
      refine ok_ite (fun d => ?_) (fun d => ?_)
      · refine ok_so ⟨⟨by dsimp only; omega, by dsimp only; omega, fun i u v => ?_, Or.inr ⟨by dsimp only; omega, rfl⟩⟩, by dsimp only; omega⟩
        dsimp only at v ⊢
        by_cases q : i = k
        · rw [q]; omega
        · have := h1 i u (by omega); omega
      · refine ok_so ⟨⟨by dsimp only; omega, hb, fun i u v => ?_, ?_⟩, by dsimp only; omega⟩
        · dsimp only at v ⊢
          by_cases q : i = k
          · rw [q]; omega
          · exact h1 i u (by omega)
        · dsimp only
          rcases h2 with w | w
          · exact Or.inl w
          · exact Or.inr ⟨by omega, w.2⟩
    · have : Kn x e b := ⟨hb, fun i u v => h1 i u (by omega), by
        rcases h2 with w | w
        · exact Or.inl w
        · exact Or.inr ⟨a, by omega, w.2⟩⟩
      have eb := Kn_un this K
      refine ok_so ⟨eb, fun q => ?_⟩
      rcases h2 with w | w
      · omega
      · exact ⟨by dsimp only; omega, by rw [← eb]; exact w.2⟩
  · rintro ⟨b, a⟩ ⟨rfl, ha⟩
    dsimp only at ha ⊢
    refine ok_bd (P := fun D => TB x e (kn x e + 1) D ∧ SameR C D) ?_ (fun D hD => ok_so ⟨rfl, hD⟩)
    refine ok_lpJ (fun z => (1 ≤ z.1 ∧ z.1 ≤ kn x e + 1) ∧ TB x e z.1 z.2 ∧ SameR C z.2) (fun z => kn x e + 1 - z.1) ?_ n _ ⟨by have := K.1; dsimp only; omega, h, rfl, rfl, rfl⟩ (by dsimp only; omega)
    rintro ⟨l, D⟩ ⟨hl, hT, hR⟩
    dsimp only at hl hT hR ⊢
    refine ⟨by omega, ?_⟩
    unfold p_X1_takeKnown_b48
    dsimp only
    rw [ck_w (by omega), ck_w (by omega)]
    refine ok_ite (fun c => ok_so ⟨by rw [show kn x e + 1 = l by omega]; exact hT, hR⟩) (fun c => ?_)
    obtain ⟨a1, a2⟩ := ha (by omega)
    have cl := cs_le hx hx e a
    rw [e_classAt (by omega) (by omega), so_bd]
    refine ok_bd (e_put (by omega) (by omega)) ?_
    rintro D' ⟨d1, d2, d3, d4⟩
    have Ca := hT.2.2.2.2 a l (by omega) (by omega) (by omega) (by omega) (Or.inl a1.2)
    refine ok_so ⟨⟨by dsimp only; omega, ?_, d2.1.trans hR.1, d2.2.1.trans hR.2.1, d2.2.2.trans hR.2.2⟩, by dsimp only; omega⟩
    dsimp only
    refine TB_of hT d1 (fun u m g1 g2 g3 g4 g5 => ?_) hx (fun u m g1 _ _ => ?_)
    · by_cases w : u = e ∧ m = l
      · refine Or.inr ?_
        rw [w.1, w.2, d3]
        exact ⟨by omega, Ca.1, Ca.2.1, cs_tr hx (by omega) (by omega) Ca.2.2⟩
      · refine Or.inl ⟨?_, d4 u m w⟩
        unfold Bfo at g1 ⊢
        omega
    · unfold Bfo at g1 ⊢
      omega
end CP
