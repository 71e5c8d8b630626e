/-! the component adds its classes -/
section AD
variable {n : Nat} {x : MT} {t : TxtS}
/-- the rows below stay -/
def Agr (C D : ClsS) : Prop := ∀ c, 0 ≤ c → c < C.size → D.firstEnds c = C.firstEnds c ∧ D.shortest c = C.shortest c ∧ D.longest c = C.longest c ∧ D.ends c = C.ends c ∧ D.links c = C.links c ∧ D.wordSets c = C.wordSets c ∧ D.stepSets c = C.stepSets c
theorem Cl_agr {C D : ClsS} (h : Agr C D) (hs : C.size ≤ D.size) {e l c : Int} (k : Cl x C.size C.firstEnds C.shortest C.longest e l c) : Cl x D.size D.firstEnds D.shortest D.longest e l c := by
  obtain ⟨a1, a2, a3, _⟩ := h c k.1.1 k.1.2
  unfold Cl
  rw [a1, a2, a3]
  exact ⟨⟨k.1.1, by have := k.1.2; omega⟩, k.2.1, k.2.2⟩
theorem RW_agr {C D : ClsS} (h : Agr C D) (hs : C.size ≤ D.size) {c : Int} (hc : 0 ≤ c ∧ c < C.size) (k : RW x C c) : RW x D c := by
  obtain ⟨a1, a2, a3, a4, a5, a6, a7⟩ := h c hc.1 hc.2
  obtain ⟨k1, k2, k3, k4, k5, k6⟩ := k
  unfold RW C1 C2
  rw [a1, a2, a3, a4, a5, a6, a7]
  refine ⟨k1, k2, k3, ?_, k5, k6⟩
  rcases k4 with k4 | k4
  · exact Or.inl k4
  · exact Or.inr ⟨k4.1, Cl_agr h hs k4.2⟩
theorem RW_mk {D : ClsS} {c e s l lk w st : Int} (h1 : D.firstEnds c = e) (h2 : D.shortest c = s) (h3 : D.longest c = l) (h4 : D.ends c = ce x e l) (h5 : D.links c = lk) (h6 : D.wordSets c = w) (h7 : D.stepSets c = st) (he : 0 ≤ e ∧ e < x.n) (hs : kn x e < s ∧ s ≤ l ∧ l ≤ x.P e + 1) (hrun : ∀ m, s ≤ m → m ≤ l → ce x e m = ce x e l) (hst : s = kn x e + 1 ∨ ce x e (s - 1) ≠ ce x e s) (hen : l = x.P e + 1 ∨ ce x e (l + 1) ≠ ce x e l) (hlk : (s = 1 ∧ lk = -6) ∨ (1 < s ∧ Cl x D.size D.firstEnds D.shortest D.longest e (s - 1) lk)) (hw : WS x e l w) (hs' : SS x e l st) : RW x D c := by
  unfold RW C1 C2
  rw [h1, h2, h3, h4, h5, h6, h7]
  exact ⟨⟨he, hs, hrun, hst⟩, hen, rfl, hlk, hw, hs'⟩
theorem TB_new (hx : MOk x) {C D : ClsS} {e s l : Int} (he : 0 ≤ e ∧ e < x.n) (hT : TB x e s C) (hD : Agr C D) (hz : D.size = C.size + 1) (hs : kn x e < s ∧ s ≤ l ∧ l ≤ x.P e + 1) (hR : RW x D C.size) (h1 : D.firstEnds C.size = e) (h2 : D.shortest C.size = s) (h3 : D.longest C.size = l) (hcl : ∀ m, s ≤ m → m ≤ l → C.classOf e m = C.size) (hc : D.classOf = C.classOf) : TB x e (l + 1) D := by
  obtain ⟨t1, t2, t3, t4, t5⟩ := hT
  have k0 := (kn_ok hx e).1
  refine ⟨by omega, fun c a b => ?_, fun c d a b g => ?_, fun a m a0 a1 a2 a3 a4 => ?_, fun a m a0 a1 a2 a3 a4 => ?_⟩
  · by_cases q : c = C.size
    · rw [q]
      exact ⟨hR, Or.inr ⟨h1, by omega⟩⟩
    · have w := t2 c a (by omega)
      refine ⟨RW_agr hD (by omega) ⟨a, by omega⟩ w.1, ?_⟩
      obtain ⟨q1, q2, q3, _⟩ := hD c a (by omega)
      rw [q1, q3]
      have := w.2
      unfold Bfo at this ⊢
      omega
  · obtain ⟨q1, q2, q3, _⟩ := hD c a (by omega)
    rw [q1, q3]
    by_cases q : d = C.size
    · rw [q, h1, h2]
      exact (t2 c a (by omega)).2
    · obtain ⟨r1, r2, r3, _⟩ := hD d (by omega) (by omega)
      rw [r1, r2]
      exact t3 c d a b (by omega)
  · by_cases q : a = e ∧ s ≤ m
    · refine ⟨C.size, ⟨t1, by omega⟩, by rw [h1]; exact q.1.symm, by rw [h2]; exact q.2, ?_⟩
      rw [h3]
      unfold Bfo at a4
      omega
    · obtain ⟨c, c1, c2, c3, c4⟩ := t4 a m a0 a1 a2 a3 (by unfold Bfo at a4 ⊢; omega)
      obtain ⟨q1, q2, q3, _⟩ := hD c c1.1 c1.2
      refine ⟨c, ⟨c1.1, by omega⟩, by rw [q1]; exact c2, by rw [q2]; exact c3, by rw [q3]; exact c4⟩
  · rw [hc]
    by_cases q : a = e ∧ s ≤ m
    · have ml : m ≤ l := by unfold Bfo at a4; omega
      rw [q.1, hcl m q.2 ml]
      refine ⟨⟨t1, by omega⟩, by rw [h2, h3]; exact ⟨q.2, ml⟩, ?_⟩
      rw [h1, cs_self hx]; omega
    · exact Cl_agr hD (by omega) (t5 a m a0 a1 a2 a3 (by unfold Bfo at a4 ⊢; omega))
theorem e_addClass (hn : 1000 ≤ n) (h : TX x t) {S : SwpS} {C : ClsS} {e s l : Int} (he : 0 ≤ e ∧ e < x.n) (hS : ∀ i, 0 ≤ i → i < x.n → S i = cs x e x i) (hT : TB x e s C) (hs : kn x e < s ∧ s ≤ l ∧ l ≤ x.P e + 1) (hrun : ∀ m, s ≤ m → m ≤ l → ce x e m = ce x e l) (hst : s = kn x e + 1 ∨ ce x e (s - 1) ≠ ce x e s) (hen : l = x.P e + 1 ∨ ce x e (l + 1) ≠ ce x e l) (hcl : ∀ m, s ≤ m → m ≤ l → C.classOf e m = C.size) (hE : C.endCounts l = ce x e l) : Ok (p_X1_addClass n C S t e s l) (fun D => TB x e (l + 1) D ∧ SameR C D ∧ D.classOf = C.classOf ∧ D.size = C.size + 1) := by
  have hx := h.2
  have nn := hx.1
  have pp := P_in hx e
  have k0 := (kn_ok hx e).1
  obtain ⟨t1, t2, t3, t4, t5⟩ := id hT
  have most : C.size + 1 ≤ 2 * x.n := by
    refine CT_most hx (E := up C.firstEnds C.size e) (S := up C.shortest C.size s) (G := up C.longest C.size l) (by omega) (fun c a b => ?_) (fun c d a b g => ?_)
    · unfold C1
      by_cases q : c = C.size
      · rw [q, up_s, up_s, up_s]; exact ⟨he, hs, hrun, hst⟩
      · rw [up_n _ _ q, up_n _ _ q, up_n _ _ q]; exact (t2 c a (by omega)).1.1
    · have cN : c ≠ C.size := by omega
      rw [up_n _ _ cN, up_n _ _ cN]
      by_cases q : d = C.size
      · rw [q, up_s, up_s]; exact (t2 c a (by omega)).2
      · rw [up_n _ _ q, up_n _ _ q]; exact t3 c d a b (by omega)
  unfold p_X1_addClass
  rw [ck_w (by omega), if_pos (by omega), ck_w (by omega), if_neg (by omega), if_neg (by omega)]
  refine ok_bd (P := fun r => WS x e l r.1 ∧ SS x e l r.2) ?_ ?_
  · refine ok_lpJ (fun z => (0 ≤ z.2.2 ∧ z.2.2 ≤ x.n) ∧ BS x.W (fun d => (0 ≤ d ∧ d < z.2.2) ∧ l ≤ cs x d x e) z.1 ∧ BS (fun d => x.L (d + 1)) (fun d => (0 ≤ d ∧ d < z.2.2) ∧ l ≤ cs x d x e ∧ 1 < x.R d) z.2.1) (fun z => x.n - z.2.2) ?_ n _ ⟨by dsimp only; omega, BS_0 (fun p q => by dsimp only at q; omega), BS_0 (fun p q => by dsimp only at q; omega)⟩ (by dsimp only; omega)
    rintro ⟨w, st, k⟩ ⟨hk, hw, hst⟩
    dsimp only at hk hw hst ⊢
    refine ⟨by omega, ?_⟩
    unfold p_X1_addClass_b32
    dsimp only
    rw [e_lengthT h, so_bd, ck_w (by omega), ck_w (by omega)]
    refine ok_ite (fun c => ?_) (fun c => ?_)
    · have c0 := cs_nn hx hx e k
      have c1 := cs_le hx hx e k
      have sy := cs_sy hx k e
      have el : p_X4_lengthAt S k = some (cs x e x k) := by
        unfold p_X4_lengthAt
        rw [ck_w (by omega), if_neg (by omega), if_pos (by omega), ix_of (by omega), hS k hk.1 (by omega)]
      have wk := W_in hx k
      have lk := L_in hx (k + 1)
      have rk := hx.2.1 k hk.1 c
      rw [el, so_bd, ck_w (by omega), ck_w (by omega)]
      refine ok_ite (fun d => ?_) (fun d => ?_)
      · refine ok_so ⟨⟨by dsimp only; omega, BS_cg hw (fun p => ?_), BS_cg hst (fun p => ?_)⟩, by dsimp only; omega⟩
        · dsimp only
          by_cases q : p = k
          · rw [q]; omega
          · omega
        · dsimp only
          by_cases q : p = k
          · rw [q]; omega
          · omega
      · rw [e_wordAt h (by unfold InR; omega), so_bd, e_lettersFrom h (by unfold InR; omega), so_bd, ck_w (by omega)]
        have hw' : BS x.W (fun d => (0 ≤ d ∧ d < k + 1) ∧ l ≤ cs x d x e) (bior w (bishl 1 (x.W k))) := by
          refine BS_add (by omega) hw (fun p => ?_)
          by_cases q : p = k
          · rw [q]; omega
          · omega
        refine ok_ite (fun g => ?_) (fun g => ?_)
        · rw [e_letterAt h (by unfold InR; omega), so_bd]
          refine ok_so ⟨⟨by dsimp only; omega, hw', BS_add (f := fun d => x.L (d + 1)) (e := k) (by omega) hst (fun p => ?_)⟩, by dsimp only; omega⟩
          dsimp only
          by_cases q : p = k
          · rw [q]; omega
          · omega
        · refine ok_so ⟨⟨by dsimp only; omega, hw', ?_⟩, by dsimp only; omega⟩
          dsimp only
          rw [bior_0 hst.1]
          refine BS_cg hst (fun p => ?_)
          by_cases q : p = k
          · rw [q]; omega
          · omega
    · rw [show k = x.n by omega] at hw hst
      exact ok_so ⟨hw, hst⟩
  · rintro ⟨w, st⟩ ⟨hw, hst'⟩
    dsimp only at hw hst' ⊢
    have fin : ∀ lk : Int, ((s = 1 ∧ lk = -6) ∨ (1 < s ∧ Cl x C.size C.firstEnds C.shortest C.longest e (s - 1) lk)) → Ok (p_X1_addClass_j176 n (C.endCounts, C.classOf, up C.firstEnds C.size e, up C.longest C.size l, up C.shortest C.size s, up C.ends C.size (C.endCounts l), C.links, C.wordSets, C.stepSets, C.letterSet, C.size, C.version) w st C.size lk) (fun D => TB x e (l + 1) D ∧ SameR C D ∧ D.classOf = C.classOf ∧ D.size = C.size + 1) := by
      intro lk hlk
      unfold p_X1_addClass_j176
      rw [ix_of (by omega), ix_of (by show 0 ≤ C.size ∧ C.size < 120; omega)]
      have ag : Agr C (C.endCounts, C.classOf, up C.firstEnds C.size e, up C.longest C.size l, up C.shortest C.size s, up C.ends C.size (C.endCounts l), up C.links C.size lk, up C.wordSets C.size w, up C.stepSets C.size st, C.letterSet, C.size + 1, C.version) := by
        intro c a b
        have q : c ≠ C.size := by omega
        exact ⟨up_n _ _ q, up_n _ _ q, up_n _ _ q, up_n _ _ q, up_n _ _ q, up_n _ _ q, up_n _ _ q⟩
      refine ok_so ⟨?_, ⟨rfl, rfl, rfl⟩, rfl, rfl⟩
      refine TB_new hx he hT ag rfl hs ?_ (up_s _ _ _) (up_s _ _ _) (up_s _ _ _) hcl rfl
      refine RW_mk (e := e) (s := s) (l := l) (lk := lk) (w := w) (st := st) (up_s _ _ _) (up_s _ _ _) (up_s _ _ _) ((up_s _ _ _).trans hE) (up_s _ _ _) (up_s _ _ _) (up_s _ _ _) he hs hrun hst hen ?_ hw hst'
      rcases hlk with q | q
      · exact Or.inl q
      · exact Or.inr ⟨q.1, Cl_agr ag (by show C.size ≤ C.size + 1; omega) q.2⟩
    rw [ix_of (by omega), ix_of (by omega), ck_w (by omega)]
    refine ok_ite (fun g => ?_) (fun g => fin (-6) (Or.inl ⟨by omega, rfl⟩))
    rw [e_classAt (by omega) (by omega), so_bd]
    exact fin _ (Or.inr ⟨g, t5 e (s - 1) he.1 he.2 (by omega) (by omega) (Or.inr ⟨rfl, by omega⟩)⟩)
def afI (x : MT) (e : Int) (C0 : ClsS) (z : Int × Int × ClsS) : Prop := (kn x e < z.1 ∧ z.1 ≤ z.2.1 ∧ z.2.1 ≤ x.P e + 2) ∧ (z.2.1 = x.P e + 2 → z.1 = z.2.1) ∧ TB x e z.1 z.2.2 ∧ SameR C0 z.2.2 ∧ (∀ m, z.1 ≤ m → m < z.2.1 → z.2.2.classOf e m = z.2.2.size) ∧ (∀ m, z.1 ≤ m → m ≤ z.2.1 → z.2.1 ≤ x.P e + 1 → ce x e m = ce x e z.2.1) ∧ (z.1 = kn x e + 1 ∨ ce x e (z.1 - 1) ≠ ce x e z.1 ∨ z.1 = x.P e + 2)
theorem e_addFactors (hn : 1000 ≤ n) (h : TX x t) {S : SwpS} {C : ClsS} {e : Int} (he : 0 ≤ e ∧ e < x.n) (hS : ∀ i, 0 ≤ i → i < x.n → S i = cs x e x i) (hT : TB x e (kn x e + 1) C) (hE : ∀ l, 0 ≤ l → l ≤ x.P e + 1 → C.endCounts l = ce x e l) : Ok (p_X1_addFactorsAt n C S t e (kn x e + 1) (x.P e + 1)) (fun D => TB x e (x.P e + 2) D ∧ SameR C D) := by
  have hx := h.2
  have nn := hx.1
  have pp := P_in hx e
  have K := kn_ok hx e
  have kl := Kn_le hx K
  have k0 := K.1
  unfold p_X1_addFactorsAt
  rw [ck_w (by omega), show max 0 (kn x e + 1) = kn x e + 1 by omega]
  refine ok_bd (P := fun D => TB x e (x.P e + 2) D ∧ SameR C D) ?_ (fun r hr => ok_so hr)
  refine ok_lpJ (afI x e C) (fun z => x.P e + 2 - z.2.1) ?_ n _ ?_ (by dsimp only; omega)
  · rintro ⟨s, l, D⟩ ⟨h1, h2, h3, h4, h5, h6, h7⟩
    dsimp only at h1 h2 h3 h4 h5 h6 h7 ⊢
    refine ⟨by omega, ?_⟩
    unfold p_X1_addFactorsAt_b10
    dsimp only
    rw [ck_w (by omega), ck_w (by omega)]
    refine ok_ite (fun c => ok_so ⟨by rw [show x.P e + 2 = s by omega]; exact h3, h4⟩) (fun c => ?_)
    rw [if_pos (by omega)]
    refine ok_bd (e_put (C := D) (e := e) (l := l) (c := D.size) (by omega) (by omega)) ?_
    rintro D' ⟨d1, d2, d3, d4⟩
    have T' : TB x e s D' := by
      refine TB_of h3 d1 (fun u m g1 g2 g3 g4 g5 => Or.inl ⟨g1, d4 u m (fun w => ?_)⟩) hx (fun _ _ g _ _ => g)
      unfold Bfo at g1
      omega
    have R' : SameR C D' := ⟨d2.1.trans h4.1, d2.2.1.trans h4.2.1, d2.2.2.trans h4.2.2⟩
    have cl' : ∀ m, s ≤ m → m ≤ l → D'.classOf e m = D'.size := by
      intro m a b
      rw [d1.1]
      by_cases q : m = l
      · rw [q]; exact d3
      · rw [d4 e m (fun w => q w.2)]; exact h5 m a (by omega)
    have E' : ∀ m, 0 ≤ m → m ≤ x.P e + 1 → D'.endCounts m = ce x e m := fun m a b => by rw [R'.1]; exact hE m a b
    have cut : (l = x.P e + 1 ∨ ce x e (l + 1) ≠ ce x e l) → Ok (p_X1_addFactorsAt_j88 n S t e D' s l) (LI (afI x e C) (fun z => x.P e + 2 - z.2.1) (x.P e + 2 - l) (fun D => TB x e (x.P e + 2) D ∧ SameR C D)) := by
      intro w
      unfold p_X1_addFactorsAt_j88
      have st : s = kn x e + 1 ∨ ce x e (s - 1) ≠ ce x e s := by
        rcases h7 with g | g | g
        · exact Or.inl g
        · exact Or.inr g
        · omega
      refine ok_bd (e_addClass hn h he hS T' (by omega) (fun m a b => h6 m a b (by omega)) st w cl' (E' l (by omega) (by omega))) ?_
      rintro F ⟨f1, f2, f3, f4⟩
      refine ok_so ⟨⟨by dsimp only; omega, fun _ => rfl, f1, ⟨f2.1.trans R'.1, f2.2.1.trans R'.2.1, f2.2.2.trans R'.2.2⟩, fun m a b => by dsimp only at a b; omega, fun m a b g => ?_, ?_⟩, by dsimp only; omega⟩
      · dsimp only at a b ⊢
        rw [show m = l + 1 by omega]
      · dsimp only
        rcases w with w | w
        · exact Or.inr (Or.inr (by omega))
        · refine Or.inr (Or.inl ?_)
          rw [show l + 1 - 1 = l by omega]; exact w.symm
    refine ok_ite (fun g => ?_) (fun g => ?_)
    · unfold p_X1_addFactorsAt_j57 p_X1_addFactorsAt_j62
      rw [ck_w (by omega), if_neg (by omega)]
      exact cut (Or.inl g)
    · have c1 := ce_le hx e l
      have c2 := ce_le hx e (l + 1)
      unfold p_X1_addFactorsAt_j62
      rw [ck_w (by omega), if_neg (by omega), ck_w (by omega), if_pos rfl, ix_of (by omega), ix_of (by omega), E' (l + 1) (by omega) (by omega), E' l (by omega) (by omega), ck_w (by omega), ck_w (by omega)]
      refine ok_ite (fun w => ?_) (fun w => cut (Or.inr w))
      refine ok_so ⟨⟨by dsimp only; omega, fun q => by dsimp only at q; omega, T', R', fun m a b => cl' m a (by dsimp only at b; omega), fun m a b _ => ?_, h7⟩, by dsimp only; omega⟩
      dsimp only at a b ⊢
      by_cases q : m = l + 1
      · rw [q]
      · rw [h6 m a (by omega) (by omega)]; exact w.symm
  · refine ⟨by dsimp only; omega, fun _ => rfl, hT, ⟨rfl, rfl, rfl⟩, fun m a b => by dsimp only at a b; omega, fun m a b _ => ?_, Or.inl rfl⟩
    dsimp only at a b ⊢
    rw [show m = kn x e + 1 by omega]
def LtS (x : MT) (e s : Int) : Prop := BS x.L (fun d => 0 ≤ d ∧ d < e) s
def ClsOk (x : MT) (C : ClsS) : Prop := TB x x.n 1 C ∧ LtS x x.n C.letterSet
theorem e_clsR (hn : 1000 ≤ n) (h : TX x t) {C : ClsS} {S : SwpS} (h1 : InR C.version) (h2 : InR t.version) (hC : C.version = t.version → ClsOk x C) : Ok (p_X1_refresh n C S t) (fun r => ClsOk x r.1 ∧ r.1.version = t.version) := by
  have hx := h.2
  have nn := hx.1
  unfold p_X1_refresh p_X5_versionTaken
  rw [so_bd, ck_of h1, ck_of h2]
  refine ok_ite (fun c => ok_so ⟨hC c, c⟩) (fun c => ?_)
  rw [so_bd]
  refine ok_bd (P := fun r => ClsOk x r.1 ∧ r.1.version = t.version) ?_ (fun r hr => ok_so hr)
  refine ok_lpJ (fun z => (0 ≤ z.1 ∧ z.1 ≤ x.n) ∧ (TB x z.1 1 z.2.1 ∧ LtS x z.1 z.2.1.letterSet ∧ z.2.1.version = t.version) ∧ (0 < z.1 → ∀ i, 0 ≤ i → i < x.n → z.2.2 i = cs x (z.1 - 1) x i)) (fun z => x.n - z.1) ?_ n _ ?_ (by dsimp only; omega)
  · rintro ⟨e, C, S⟩ ⟨he, ⟨hT, hL, hV⟩, hS⟩
    dsimp only at he hT hL hV hS ⊢
    refine ⟨by omega, ?_⟩
    unfold p_X1_refresh_b32
    dsimp only
    rw [e_lengthT h, so_bd, ck_w (by omega), ck_w (by omega)]
    refine ok_ite (fun d => ?_) (fun d => ?_)
    · have pp := P_in hx e
      have ll := L_in hx e
      rw [e_letterAt h (by unfold InR; omega), so_bd, so_bd, adv_al]
      refine ok_bd (e_advance hn h h (S := S) (e := e) (b := x.n) (by omega) (by omega) (fun q i i0 i1 => hS (by have := (hx.2.1 e he.1 d).2.2.2.2.2.1; omega) i i0 (by omega))) ?_
      intro r hr
      have hr' : ∀ i, 0 ≤ i → i < x.n → r.2 i = cs x e x i := fun i a b => (hr.1 i a b).1
      rw [e_placeAt h (by unfold InR; omega), so_bd, ck_w (by omega), so_bd, show min (x.P e + 1) 60 = x.P e + 1 by omega]
      refine ok_bd (e_countEnds hn hx ⟨he.1, d⟩ hr') ?_
      rintro D ⟨d1, d2, d3, d4, d5⟩
      have T1 : TB x e 1 D := TB_of hT d1 (fun u m g1 g2 g3 g4 g5 => Or.inl ⟨g1, by rw [d2]⟩) hx (fun _ _ g _ _ => g)
      refine ok_bd (e_takeKnown hn hx ⟨he.1, d⟩ hr' T1) ?_
      rintro ⟨k, F⟩ ⟨f1, f2, f3⟩
      dsimp only at f1 f2 f3 ⊢
      rw [f1]
      refine ok_bd (e_addFactors hn h ⟨he.1, d⟩ hr' f2 (fun l a b => by rw [f3.1]; exact d5 l a b)) ?_
      rintro G ⟨g1, g2⟩
      refine ok_so ⟨⟨by dsimp only; omega, ⟨?_, ?_, ?_⟩, fun _ i a b => ?_⟩, by dsimp only; omega⟩
      · dsimp only
        refine TB_of g1 ⟨rfl, rfl, rfl, rfl, rfl, rfl, rfl, rfl⟩ (fun u m w1 w2 w3 w4 w5 => Or.inl ⟨?_, rfl⟩) hx (fun u m w1 w2 w3 => ?_)
        · unfold Bfo at w1 ⊢
          by_cases q : u = e
          · rw [q] at w3; omega
          · omega
        · unfold Bfo at w1 ⊢
          omega
      · dsimp only
        rw [g2.2.1, f3.2.1, d3]
        exact BS_add (by omega) hL (fun p => by omega)
      · dsimp only
        rw [g2.2.2, f3.2.2, d4]; exact hV
      · dsimp only
        rw [show e + 1 - 1 = e by omega]; exact hr' i a b
    · rw [show e = x.n by omega] at hT hL
      exact ok_so ⟨⟨hT, hL⟩, hV⟩
  · refine ⟨by dsimp only; omega, ⟨?_, BS_0 (fun p q => by omega), rfl⟩, fun q => by dsimp only at q; omega⟩
    dsimp only
    refine ⟨Int.le_refl 0, fun c a b => ?_, fun c d a b g => ?_, fun a m a0 a1 a2 a3 a4 => ?_, fun a m a0 a1 a2 a3 a4 => ?_⟩
    · exact absurd b (show ¬ c < 0 by omega)
    · exact absurd g (show ¬ d < 0 by omega)
    · unfold Bfo at a4; have := (kn_ok hx a).1; omega
    · unfold Bfo at a4; omega
theorem ClsOk_CT (hx : MOk x) {C : ClsS} (h : ClsOk x C) : CT x C.size C.firstEnds C.shortest C.longest := by
  obtain ⟨⟨h1, h2, h3, h4, h5⟩, _⟩ := h
  exact ⟨h1, fun c a b => ⟨(h2 c a b).1.1, (h2 c a b).1.2.1⟩, h3, fun e l a b c d => h4 e l a b c d (Or.inl b)⟩
end AD
