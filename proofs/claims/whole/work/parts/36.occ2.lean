/-! occurrences apart -/
noncomputable def apN (x y : MT) : Nat → Int × Int
  | 0 => (0, 0)
  | k + 1 => @ite _ ((apN x y k).2 ≤ k ∧ At x y k) (Classical.propDecidable _) ((apN x y k).1 + 1, k + y.n) (apN x y k)
noncomputable def ap (x y : MT) (k : Int) : Int × Int := apN x y k.toNat
theorem ap_0 {x y : MT} {k : Int} (h : k ≤ 0) : ap x y k = (0, 0) := by
  unfold ap; rw [show k.toNat = 0 by omega]; rfl
theorem ap_t {x y : MT} {k : Int} (h : 0 ≤ k) (c : (ap x y k).2 ≤ k ∧ At x y k) : ap x y (k + 1) = ((ap x y k).1 + 1, k + y.n) := by
  unfold ap at *
  rw [show (k + 1).toNat = k.toNat + 1 by omega]
  have e : ((k.toNat : Nat) : Int) = k := Int.toNat_of_nonneg h
  show @ite _ ((apN x y k.toNat).2 ≤ (k.toNat : Int) ∧ At x y (k.toNat : Int)) (Classical.propDecidable _) ((apN x y k.toNat).1 + 1, (k.toNat : Int) + y.n) (apN x y k.toNat) = _
  rw [e, if_pos c]
theorem ap_f {x y : MT} {k : Int} (h : 0 ≤ k) (c : ¬ ((ap x y k).2 ≤ k ∧ At x y k)) : ap x y (k + 1) = ap x y k := by
  unfold ap at *
  rw [show (k + 1).toNat = k.toNat + 1 by omega]
  have e : ((k.toNat : Nat) : Int) = k := Int.toNat_of_nonneg h
  show @ite _ ((apN x y k.toNat).2 ≤ (k.toNat : Int) ∧ At x y (k.toNat : Int)) (Classical.propDecidable _) ((apN x y k.toNat).1 + 1, (k.toNat : Int) + y.n) (apN x y k.toNat) = _
  rw [e, if_neg c]
theorem ap_b {x y : MT} (hx : MOk x) (hy : 1 ≤ y.n ∧ y.n ≤ 60) : ∀ k, 0 ≤ k → k ≤ x.n → (0 ≤ (ap x y k).2 ∧ (ap x y k).2 ≤ x.n) := by
  intro k hk
  refine int_ind (P := fun k => k ≤ x.n → (0 ≤ (ap x y k).2 ∧ (ap x y k).2 ≤ x.n)) (fun _ => by rw [ap_0 (Int.le_refl 0)]; have := hx.1; exact ⟨Int.le_refl _, this.1⟩) (fun i hi ih hl => ?_) k hk
  have ih := ih (by omega)
  by_cases c : (ap x y i).2 ≤ i ∧ At x y i
  · rw [ap_t hi c]; have := At_in hx hy.1 c.2; show 0 ≤ i + y.n ∧ i + y.n ≤ x.n; omega
  · rw [ap_f hi c]; exact ih
theorem ap_tail {x y : MT} (hx : MOk x) (hy : 1 ≤ y.n ∧ y.n ≤ 60) : ap x y (x.n - (y.n - 1)) = ap x y x.n := by
  have hn := hx.1
  have : ∀ d, 0 ≤ d → ∀ k, x.n - (y.n - 1) ≤ k → 0 ≤ k → ap x y (k + d) = ap x y k := by
    intro d hd
    refine int_ind (P := fun d => ∀ k, x.n - (y.n - 1) ≤ k → 0 ≤ k → ap x y (k + d) = ap x y k) (fun k _ _ => by rw [Int.add_zero]) (fun i hi ih k a b => ?_) d hd
    rw [show k + (i + 1) = k + i + 1 by omega, ap_f (by omega) (fun c => by have := At_in hx hy.1 c.2; omega)]
    exact ih k a b
  by_cases c : 0 ≤ x.n - (y.n - 1)
  · have := this (y.n - 1) (by omega) (x.n - (y.n - 1)) (Int.le_refl _) c
    rw [show x.n - (y.n - 1) + (y.n - 1) = x.n by omega] at this
    exact this.symm
  · have := this x.n (by omega) 0 (by omega) (Int.le_refl 0)
    rw [show 0 + x.n = x.n by omega] at this
    rw [this, ap_0 (by omega), ap_0 (Int.le_refl 0)]
section OC2
variable {n : Nat} {x y : MT} {t u : TxtS}
theorem e_mostApart (hn : 1000 ≤ n) (h : TX x t) (k : TX y u) (hy : 1 ≤ y.n) (hr : y.R 0 = y.n ∧ ∀ i, 0 ≤ i → i < y.n → y.P i = i) : p_X5_mostApart n t u = some (ap x y x.n).1 := by
  have hx := h.2
  have lx := TX_len h
  have ly := TX_len k
  unfold p_X5_mostApart
  have : Ok (lp (p_X5_mostApart_b7 n t u) n (0, 0, 0)) (fun r => r = (ap x y x.n).1) := by
    refine ok_mono (P := fun r => r = (ap x y (x.n - (y.n - 1))).1) ?_ (fun r q => by rw [q, ap_tail hx ⟨hy, ly.2.2⟩])
    refine ok_lpJ (fun z => (0 ≤ z.2.2 ∧ z.2.2 ≤ x.n) ∧ (z.1, z.2.1) = ap x y (z.2.2 - (y.n - 1))) (fun z => x.n - z.2.2) ?_ n _ ⟨by dsimp only; omega, by dsimp only; rw [ap_0 (by omega)]⟩ (by dsimp only; omega)
    rintro ⟨c, f, e⟩ ⟨he, hc⟩
    dsimp only at he hc ⊢
    refine ⟨by omega, ?_⟩
    have hc1 : c = (ap x y (e - (y.n - 1))).1 := congrArg Prod.fst hc
    have hc2 : f = (ap x y (e - (y.n - 1))).2 := congrArg Prod.snd hc
    have fb : 0 ≤ f ∧ f ≤ x.n := by
      rw [hc2]
      by_cases q : 0 ≤ e - (y.n - 1)
      · exact ap_b hx ⟨hy, ly.2.2⟩ _ q (by omega)
      · rw [ap_0 (by omega)]; exact ⟨Int.le_refl _, lx.2.1⟩
    unfold p_X5_mostApart_b7
    dsimp only
    rw [lx.1, ck_w (by omega), ck_w (by omega)]
    refine ok_ite (fun d => ?_) (fun d => ?_)
    · rw [e_lengthT k, so_bd, ck_w (by omega), ck_w (by omega)]
      have keep : ¬ ((0 ≤ e - (y.n - 1)) ∧ (ap x y (e - (y.n - 1))).2 ≤ e - (y.n - 1) ∧ At x y (e - (y.n - 1))) → ap x y (e + 1 - (y.n - 1)) = ap x y (e - (y.n - 1)) := by
        intro q
        by_cases w : 0 ≤ e - (y.n - 1)
        · rw [show e + 1 - (y.n - 1) = e - (y.n - 1) + 1 by omega, ap_f w (fun z => q ⟨w, z⟩)]
        · rw [ap_0 (by omega), ap_0 (by omega)]
      refine ok_ite (fun g => ?_) (fun g => ?_)
      · refine ok_so ⟨⟨by dsimp only; omega, ?_⟩, by dsimp only; omega⟩
        dsimp only
        rw [keep (fun q => by omega)]; exact hc
      · obtain ⟨q1, q2⟩ := e_hasEnd hn h k hy hr ⟨he.1, d⟩
        by_cases w : At x y (e - y.n + 1)
        · rw [q1 w, so_bd, ck_w (by omega), if_neg (by omega)]
          refine ok_so ⟨⟨by dsimp only; omega, ?_⟩, by dsimp only; omega⟩
          dsimp only
          rw [show e + 1 - (y.n - 1) = e - (y.n - 1) + 1 by omega, ap_t (by omega) ⟨by omega, by rw [show e - (y.n - 1) = e - y.n + 1 by omega]; exact w⟩, ← hc1, show e - (y.n - 1) + y.n = e + 1 by omega]
        · rw [q2 w, so_bd, ck_w (by omega), if_pos rfl]
          refine ok_so ⟨⟨by dsimp only; omega, ?_⟩, by dsimp only; omega⟩
          dsimp only
          rw [keep (fun q => w (by rw [show e - y.n + 1 = e - (y.n - 1) by omega]; exact q.2.2))]; exact hc
    · rw [show e = x.n by omega] at hc1
      exact ok_so hc1
  rw [ok_eq this, so_bd]
end OC2
section OC3
variable {n : Nat} {x : MT} {m : MtS} {P : PadS} {M : MpS}
theorem e_apart (hn : 1000 ≤ n) (h : MX 0 x m) (hp : PR P M) (hP : PatOk P) : p_X7_apart n M m = some (ap x (pm P) x.n).1 := by
  have hx := h.1
  have nn := hx.1
  have hm : m.many 0 = x.n := h.2.1
  obtain ⟨h1, h2, h3⟩ := id hp
  have hs : (pm P).n = P.size := rfl
  unfold p_X7_apart
  have : Ok (lp (p_X7_apart_b6 n M m) n (0, 0, 0)) (fun r => r = (ap x (pm P) x.n).1) := by
    refine ok_lpJ (fun z => (0 ≤ z.2.2 ∧ z.2.2 ≤ x.n) ∧ (z.1, z.2.1) = ap x (pm P) z.2.2) (fun z => x.n - z.2.2) ?_ n _ ⟨by dsimp only; omega, by dsimp only; rw [ap_0 (by omega)]⟩ (by dsimp only; omega)
    rintro ⟨c, f, p⟩ ⟨he, hc⟩
    dsimp only at he hc ⊢
    refine ⟨by omega, ?_⟩
    have hc1 : c = (ap x (pm P) p).1 := congrArg Prod.fst hc
    have hc2 : f = (ap x (pm P) p).2 := congrArg Prod.snd hc
    have fb := ap_b hx (y := pm P) hP.1 p he.1 he.2
    unfold p_X7_apart_b6
    dsimp only
    rw [hm, ck_w (by omega), ck_w (by omega)]
    refine ok_ite (fun d => ?_) (fun d => ?_)
    · rw [ck_w (by omega)]
      refine ok_ite (fun g => ?_) (fun g => ?_)
      · refine ok_so ⟨⟨by dsimp only; omega, ?_⟩, by dsimp only; omega⟩
        dsimp only
        rw [ap_f he.1 (fun q => by omega)]; exact hc
      · obtain ⟨q1, q2⟩ := e_stands hn h hp hP (p := p) (f := 0) (l := P.size) ⟨he.1, d⟩ (by omega) (by have := hP.1; omega)
        rw [h1]
        by_cases w : At x (pm P) p
        · rw [q1 w, so_bd, ck_w (by omega), if_neg (by omega)]
          refine ok_so ⟨⟨by dsimp only; omega, ?_⟩, by dsimp only; omega⟩
          dsimp only
          rw [ap_t he.1 ⟨by omega, w⟩, ← hc1]; rfl
        · rw [q2 w, so_bd, ck_w (by omega), if_pos rfl]
          refine ok_so ⟨⟨by dsimp only; omega, ?_⟩, by dsimp only; omega⟩
          dsimp only
          rw [ap_f he.1 (fun q => w q.2)]; exact hc
    · rw [show p = x.n by omega] at hc1
      exact ok_so hc1
  rw [ok_eq this, so_bd]
/-- the reference's run over all places, from behind -/
theorem e_moccurs (hn : 1000 ≤ n) (h : MX 0 x m) (hp : PR P M) (hP : PatOk P) : Ok (lp (p_X7_occurs_b44 n M m) n (0, 0, -6, x.n - 1)) (fun r => r.1 = cA x (pm P) x.n ∧ WSet x (At x (pm P)) r.2.1 ∧ ((r.2.2 = -6 ∧ ∀ p, ¬ At x (pm P) p) ∨ ((0 ≤ r.2.2 ∧ r.2.2 < x.n) ∧ At x (pm P) r.2.2 ∧ ∀ p, p < r.2.2 → ¬ At x (pm P) p))) := by
  have hx := h.1
  have nn := hx.1
  obtain ⟨h1, h2, h3⟩ := id hp
  have hs : (pm P).n = P.size := rfl
  have hy : 1 ≤ (pm P).n := hP.1.1
  refine ok_lpJ (fun z => (-1 ≤ z.2.2.2 ∧ z.2.2.2 < x.n) ∧ z.1 + cA x (pm P) (z.2.2.2 + 1) = cA x (pm P) x.n ∧ (InR z.2.1 ∧ ∀ k, k < 32 → (tb z.2.1 k = true ↔ ∃ p, ((z.2.2.2 < p ∧ p < x.n) ∧ At x (pm P) p) ∧ x.W p = k)) ∧ ((z.2.2.1 = -6 ∧ ∀ p, z.2.2.2 < p → ¬ At x (pm P) p) ∨ ((z.2.2.2 < z.2.2.1 ∧ z.2.2.1 < x.n) ∧ At x (pm P) z.2.2.1 ∧ ∀ p, z.2.2.2 < p → p < z.2.2.1 → ¬ At x (pm P) p))) (fun z => z.2.2.2 + 1) ?_ n _ ?_ (by dsimp only; omega)
  · rintro ⟨c, s, f, p⟩ ⟨he, hc, hS, hF⟩
    dsimp only at he hc hS hF ⊢
    refine ⟨by omega, ?_⟩
    unfold p_X7_occurs_b44
    dsimp only
    rw [ck_w (by omega)]
    refine ok_ite (fun d => ?_) (fun d => ?_)
    · have e : p = -1 := by omega
      subst e
      rw [show -1 + 1 = (0 : Int) by omega, cA_0] at hc
      refine ok_so ⟨by dsimp only; omega, ⟨hS.1, fun k hk => ?_⟩, ?_⟩
      · dsimp only
        rw [hS.2 k hk]
        exact ⟨fun ⟨p, w, v⟩ => ⟨p, ⟨by omega, w.1.2⟩, w.2, v⟩, fun ⟨p, w, w2, v⟩ => ⟨p, ⟨⟨by omega, w.2⟩, w2⟩, v⟩⟩
      · dsimp only
        rcases hF with ⟨a, b⟩ | ⟨a, b, g⟩
        · refine Or.inl ⟨a, fun p w => ?_⟩
          by_cases q : -1 < p
          · exact b p q w
          · have := At_in hx hy w; omega
        · refine Or.inr ⟨by omega, b, fun p q w => ?_⟩
          by_cases q2 : -1 < p
          · exact g p q2 q w
          · have := At_in hx hy w; omega
    · obtain ⟨q1, q2⟩ := e_stands hn h hp hP (p := p) (f := 0) (l := P.size) ⟨by omega, he.2⟩ (by omega) (by have := hP.1; omega)
      rw [h1]
      have st := cA_s (x := x) (y := pm P) (k := p) (by omega)
      by_cases w : At x (pm P) p
      · rw [ind_t w] at st
        rw [q1 w, so_bd, ck_w (by omega), if_neg (by omega), ix_of (by omega), e_mwordOf h ⟨by omega, he.2⟩]
        refine ok_so ⟨⟨by dsimp only; omega, ?_, ⟨inR_or _ _, ?_⟩, Or.inr ⟨by dsimp only; omega, w, fun j a b => by dsimp only at a b; omega⟩⟩, by dsimp only; omega⟩
        · dsimp only
          rw [show p + -1 + 1 = p by omega]; omega
        · dsimp only
          refine tb_add hx ⟨by omega, he.2⟩ hS.2 (fun j => ⟨fun v => ?_, fun v => ?_⟩)
          · by_cases e1 : j = p
            · exact Or.inr e1
            · exact Or.inl ⟨by omega, v.2⟩
          · rcases v with v | v
            · exact ⟨by omega, v.2⟩
            · subst v; exact ⟨by omega, w⟩
      · rw [ind_f w] at st
        rw [q2 w, so_bd, ck_w (by omega), if_pos rfl]
        refine ok_so ⟨⟨by dsimp only; omega, ?_, ⟨hS.1, fun k hk => ?_⟩, ?_⟩, by dsimp only; omega⟩
        · dsimp only
          rw [show p + -1 + 1 = p by omega]; omega
        · dsimp only
          rw [hS.2 k hk]
          refine ⟨fun ⟨j, v, v2⟩ => ⟨j, ⟨by omega, v.2⟩, v2⟩, fun ⟨j, v, v2⟩ => ⟨j, ⟨?_, v.2⟩, v2⟩⟩
          by_cases e1 : j = p
          · subst e1; exact absurd v.2 w
          · omega
        · dsimp only
          have nw : ∀ j, p + -1 < j → ¬ p < j → ¬ At x (pm P) j := fun j a b v => w (by rw [show p = j by omega]; exact v)
          rcases hF with ⟨a, b⟩ | ⟨a, b, g⟩
          · refine Or.inl ⟨a, fun j v => ?_⟩
            by_cases q : p < j
            · exact b j q
            · exact nw j v q
          · refine Or.inr ⟨by omega, b, fun j v v2 => ?_⟩
            by_cases q : p < j
            · exact g j q v2
            · exact nw j v q
  · refine ⟨by dsimp only; omega, ?_, ⟨by dsimp only; decide, fun k hk => ?_⟩, Or.inl ⟨rfl, fun p a b => ?_⟩⟩
    · dsimp only
      rw [show x.n - 1 + 1 = x.n by omega]; omega
    · dsimp only
      rw [tb_0]
      exact ⟨fun q => (by cases q), fun ⟨p, w, v⟩ => (by omega)⟩
    · dsimp only at a
      have := At_in hx hy b; omega
/-- the reference's k-th end -/
theorem e_mend (hn : 1000 ≤ n) (h : MX 0 x m) (hp : PR P M) (hP : PatOk P) {v : Int} (hv : InR v) : Ok (lp (p_X7_end_b18 n M m v) n (0, 0)) (fun r => (∃ p, (0 ≤ p ∧ p + P.size ≤ x.n) ∧ At x (pm P) p ∧ cA x (pm P) p = v ∧ r = .inl (100 * x.W (p + P.size - 1) + x.P (p + P.size - 1), m)) ∨ (r = .inr () ∧ ∀ p, 0 ≤ p → p < x.n → At x (pm P) p → cA x (pm P) p ≠ v)) := by
  have hx := h.1
  have nn := hx.1
  have hm : m.many 0 = x.n := h.2.1
  obtain ⟨h1, h2, h3⟩ := id hp
  have hs : (pm P).n = P.size := rfl
  have hy : 1 ≤ (pm P).n := hP.1.1
  refine ok_lpJ (fun z => (0 ≤ z.2 ∧ z.2 ≤ x.n) ∧ z.1 = cA x (pm P) z.2 ∧ z.1 ≤ z.2 ∧ ∀ p, 0 ≤ p → p < z.2 → At x (pm P) p → cA x (pm P) p ≠ v) (fun z => x.n - z.2) ?_ n _ ⟨by dsimp only; omega, by dsimp only; rw [cA_0], by dsimp only; omega, fun p a b => absurd b (by dsimp only; omega)⟩ (by dsimp only; omega)
  rintro ⟨c, p⟩ ⟨he, hc, hcl, hno⟩
  dsimp only at he hc hcl hno ⊢
  refine ⟨by omega, ?_⟩
  have c0 : 0 ≤ cA x (pm P) p := sm_nn (fun i _ _ => ind_nn _)
  unfold p_X7_end_b18
  dsimp only
  rw [hm, ck_w (by omega), ck_w (by omega)]
  refine ok_ite (fun d => ?_) (fun d => ?_)
  · obtain ⟨q1, q2⟩ := e_stands hn h hp hP (p := p) (f := 0) (l := P.size) ⟨he.1, d⟩ (by omega) (by have := hP.1; omega)
    rw [h1]
    have st := cA_s (x := x) (y := pm P) (k := p) he.1
    by_cases w : At x (pm P) p
    · have hin := At_in hx hy w
      rw [ind_t w] at st
      rw [q1 w, so_bd, ck_w (by omega), if_neg (by omega), ck_w (by omega), ck_of hv]
      refine ok_ite (fun g => ?_) (fun g => ?_)
      · rw [e_asEnd h ⟨by omega, by omega⟩, so_bd]
        exact ok_so (Or.inl ⟨p, by omega, w, by omega, rfl⟩)
      · refine ok_so ⟨⟨by dsimp only; omega, by dsimp only; omega, by dsimp only; omega, fun j a b s => ?_⟩, by dsimp only; omega⟩
        dsimp only at b
        by_cases e : j = p
        · rw [e]; omega
        · exact hno j a (by omega) s
    · rw [ind_f w] at st
      rw [q2 w, so_bd, ck_w (by omega), if_pos rfl]
      refine ok_so ⟨⟨by dsimp only; omega, by dsimp only; omega, by dsimp only; omega, fun j a b s => ?_⟩, by dsimp only; omega⟩
      dsimp only at b
      by_cases e : j = p
      · rw [e] at s; exact absurd s w
      · exact hno j a (by omega) s
  · exact ok_so (Or.inr ⟨rfl, fun j a b s => hno j a (by omega) s⟩)
/-- the reference: a stretch of the pattern is a factor -/
def Fc (x y : MT) (f l : Int) : Prop := ∃ p, (0 ≤ p ∧ p < x.n) ∧ Sm x p y f l
theorem e_isFactor (hn : 1000 ≤ n) (h : MX 0 x m) (hp : PR P M) (hP : PatOk P) {f l : Int} (hf : 0 ≤ f ∧ 0 ≤ l ∧ f + l ≤ P.size) (hf1 : f < P.size) : (Fc x (pm P) f l → p_X7_isFactor n M m f l = some 1) ∧ (¬ Fc x (pm P) f l → p_X7_isFactor n M m f l = some 0) := by
  have hx := h.1
  have nn := hx.1
  have hm : m.many 0 = x.n := h.2.1
  have : Ok (lp (p_X7_isFactor_b2 n M m f l) n 0) (fun r => (r = .inl 1 ∧ Fc x (pm P) f l) ∨ (r = .inr () ∧ ¬ Fc x (pm P) f l)) := by
    refine ok_lpJ (fun z => (0 ≤ z ∧ z ≤ x.n) ∧ ∀ p, 0 ≤ p → p < z → ¬ Sm x p (pm P) f l) (fun z => x.n - z) ?_ n _ ⟨by omega, fun p a b => by omega⟩ (by omega)
    rintro p ⟨he, hno⟩
    refine ⟨by omega, ?_⟩
    unfold p_X7_isFactor_b2
    rw [hm, ck_w (by omega), ck_w (by omega)]
    refine ok_ite (fun d => ?_) (fun d => ?_)
    · obtain ⟨q1, q2⟩ := e_stands hn h hp hP (p := p) ⟨he.1, d⟩ hf hf1
      by_cases w : Sm x p (pm P) f l
      · rw [q1 w, so_bd, ck_w (by omega), if_neg (by omega)]
        exact ok_so (Or.inl ⟨rfl, p, ⟨he.1, d⟩, w⟩)
      · rw [q2 w, so_bd, ck_w (by omega), if_pos rfl]
        refine ok_so ⟨⟨by omega, fun j a b s => ?_⟩, by dsimp only; omega⟩
        by_cases e : j = p
        · rw [e] at s; exact w s
        · exact hno j a (by omega) s
    · exact ok_so (Or.inr ⟨rfl, fun ⟨p, hp, s⟩ => hno p hp.1 (by omega) s⟩)
  obtain ⟨r, e1, e2⟩ := this
  unfold p_X7_isFactor
  rw [e1, so_bd]
  rcases e2 with ⟨rfl, q⟩ | ⟨rfl, q⟩
  · exact ⟨fun _ => rfl, fun c => absurd q c⟩
  · exact ⟨fun c => absurd c q, fun _ => rfl⟩
end OC3
