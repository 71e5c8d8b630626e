/-! the reference's classes -/
section MC
variable {n : Nat} {x : MT} {m : MtS}
theorem e_firstPlace (hn : 1000 ≤ n) (h : MX 0 x m) {p l : Int} (hl : 1 ≤ l ∧ l ≤ x.R p) : Ok (p_X7_firstPlace n m p l) (fun f => (0 ≤ f ∧ f ≤ p) ∧ Sm x p x f l ∧ ∀ q, 0 ≤ q → q < f → ¬ Sm x p x q l) := by
  have hx := h.1
  have nn := hx.1
  have hp := R_in hx (p := p) (by omega)
  have rr := R_le hx p
  unfold p_X7_firstPlace
  refine ok_bd (P := fun f => (0 ≤ f ∧ f ≤ p) ∧ Sm x p x f l ∧ ∀ q, 0 ≤ q → q < f → ¬ Sm x p x q l) ?_ (fun r hr => ok_so hr)
  refine ok_lpJ (fun z => (0 ≤ z ∧ z ≤ p) ∧ ∀ q, 0 ≤ q → q < z → ¬ Sm x p x q l) (fun z => p - z) ?_ n _ ⟨by omega, fun q a b => by omega⟩ (by omega)
  rintro z ⟨hz, hs⟩
  refine ⟨by omega, ?_⟩
  unfold p_X7_firstPlace_b2
  obtain ⟨q1, q2⟩ := e_isSame hn h (p := p) (q := z) (l := l) hp (by omega) (by omega)
  by_cases w : Sm x p x z l
  · rw [q1 w, so_bd, ck_w (by omega), if_neg (by omega)]
    exact ok_so ⟨hz, w, hs⟩
  · rw [q2 w, so_bd, ck_w (by omega), if_pos rfl]
    have : z ≠ p := fun c => w (by rw [c]; exact Sm_rf hl.2)
    refine ok_so ⟨⟨by omega, fun q a b => ?_⟩, by dsimp only; omega⟩
    by_cases c : q = z
    · rw [c]; exact w
    · exact hs q a (by omega)
theorem e_endsAt (hn : 1000 ≤ n) (h : MX 0 x m) {p l : Int} (hl : 1 ≤ l ∧ l ≤ x.R p) : p_X7_endsAt n m p l = some (cnt x p l) := by
  have hx := h.1
  have nn := hx.1
  have hm : m.many 0 = x.n := h.2.1
  have hp := R_in hx (p := p) (by omega)
  have rr := R_le hx p
  unfold p_X7_endsAt
  have : Ok (lp (p_X7_endsAt_b5 n m p l) n (0, 0)) (fun r => r = cnt x p l) := by
    refine ok_lpJ (fun z => (0 ≤ z.2 ∧ z.2 ≤ x.n) ∧ z.1 = sm (fun q => ind (Sm x q x p l)) z.2) (fun z => x.n - z.2) ?_ n _ ⟨by dsimp only; omega, by dsimp only; rw [sm_0 (Int.le_refl 0)]⟩ (by dsimp only; omega)
    rintro ⟨c, z⟩ ⟨hz, hc⟩
    dsimp only at hz hc ⊢
    refine ⟨by omega, ?_⟩
    unfold p_X7_endsAt_b5
    dsimp only
    rw [hm, ck_w (by omega), ck_w (by omega)]
    refine ok_ite (fun d => ?_) (fun d => ok_so (by rw [hc, show z = x.n by omega]; rfl))
    obtain ⟨q1, q2⟩ := e_isSame hn h (p := p) (q := z) (l := l) hp (by omega) (by omega)
    by_cases w : Sm x p x z l
    · rw [q1 w, so_bd, ck_w (by omega), if_neg (by omega)]
      refine ok_so ⟨⟨by dsimp only; omega, ?_⟩, by dsimp only; omega⟩
      dsimp only
      rw [sm_s hz.1, ind_t (Sm_sy w), ← hc]
    · rw [q2 w, so_bd, ck_w (by omega), if_pos rfl]
      refine ok_so ⟨⟨by dsimp only; omega, ?_⟩, by dsimp only; omega⟩
      dsimp only
      rw [sm_s hz.1, ind_f (fun g => w (Sm_sy g)), ← hc]
  rw [ok_eq this, so_bd]
def TM (x : MT) (e l N : Int) (E S G Q : Row) : Prop := 0 ≤ N ∧ (∀ c, 0 ≤ c → c < N → C1 x E S G c ∧ Q c = ce x (E c) (G c) ∧ Bfo e l (E c) (G c) ∧ (C2 x E G c ∨ (c = N - 1 ∧ E c = e ∧ G c = l - 1))) ∧ Ord E S G N ∧ ∀ e' k, 0 ≤ e' → e' < x.n → kn x e' < k → k ≤ x.P e' + 1 → Bfo e l e' k → ∃ c, Has N E S G e' k c
def TL (x : MT) (e q l N : Int) (E G : Row) : Prop := (l ≤ kn x e + 1 ∧ q = 0) ∨ (kn x e + 1 < l ∧ q = ce x e (l - 1) ∧ 0 < N ∧ E (N - 1) = e ∧ G (N - 1) = l - 1)
theorem TM_skip (hx : MOk x) {e l N : Int} {E S G Q : Row} (h : TM x e l N E S G Q) (hl : l ≤ kn x e) : TM x e (l + 1) N E S G Q := by
  obtain ⟨h1, h2, h3, h4⟩ := h
  refine ⟨h1, fun c a b => ?_, h3, fun e' k a b c d g => h4 e' k a b c d ?_⟩
  · obtain ⟨a1, a2, a3, a4⟩ := h2 c a b
    refine ⟨a1, a2, by unfold Bfo at a3 ⊢; omega, ?_⟩
    rcases a4 with a4 | ⟨_, q1, q2⟩
    · exact Or.inl a4
    · have := a1.2.1
      rw [q1] at this
      omega
  · unfold Bfo at g ⊢
    by_cases q : e' = e
    · rw [q] at c; omega
    · omega
theorem TM_long (hx : MOk x) {e l N : Int} {E S G Q : Row} (h : TM x e l N E S G Q) (he : 0 ≤ e ∧ e < x.n) (hl : kn x e + 1 < l ∧ l ≤ x.P e + 1) (hN : 0 < N) (hE : E (N - 1) = e) (hG : G (N - 1) = l - 1) (hq : ce x e l = ce x e (l - 1)) : TM x e (l + 1) N E S (up G (N - 1) l) Q := by
  obtain ⟨h1, h2, h3, h4⟩ := h
  refine ⟨h1, fun c a b => ?_, fun c d a b g => ?_, fun e' k a b c d g => ?_⟩
  · obtain ⟨a1, a2, a3, a4⟩ := h2 c a b
    by_cases w : c = N - 1
    · subst w
      obtain ⟨b1, b2, b3, b4⟩ := a1
      rw [hE, hG] at b2 b3
      unfold C1 C2
      rw [up_s, hE]
      rw [hE] at b1 b4
      refine ⟨⟨b1, by omega, fun k u v => ?_, b4⟩, ?_, Or.inr ⟨rfl, by omega⟩, Or.inr ⟨rfl, rfl, by omega⟩⟩
      · by_cases g : k = l
        · rw [g]
        · rw [hq]; exact b3 k u (by omega)
      · rw [a2, hE, hG, hq]
    · unfold C1 C2
      rw [up_n _ _ w]
      refine ⟨a1, a2, by unfold Bfo at a3 ⊢; omega, ?_⟩
      rcases a4 with a4 | ⟨q, _⟩
      · exact Or.inl a4
      · exact absurd q w
  · rw [up_n _ _ (by omega)]; exact h3 c d a b g
  · by_cases w : e' = e ∧ k = l
    · refine ⟨N - 1, ⟨by omega, by omega⟩, by rw [hE]; exact w.1.symm, ?_, by rw [up_s]; omega⟩
      have := (h2 (N - 1) (by omega) (by omega)).1.2.1
      omega
    · obtain ⟨r, r1, r2, r3, r4⟩ := h4 e' k a b c d (by unfold Bfo at g ⊢; omega)
      refine ⟨r, r1, r2, r3, ?_⟩
      by_cases w2 : r = N - 1
      · rw [w2, up_s]; rw [w2, hG] at r4; omega
      · rw [up_n _ _ w2]; exact r4
theorem TM_new (hx : MOk x) {e l N q : Int} {E S G Q : Row} (h : TM x e l N E S G Q) (he : 0 ≤ e ∧ e < x.n) (hl : kn x e < l ∧ l ≤ x.P e + 1) (hL : TL x e q l N E G) (hq : ce x e l ≠ q) : TM x e (l + 1) (N + 1) (up E N e) (up S N l) (up G N l) (up Q N (ce x e l)) := by
  obtain ⟨h1, h2, h3, h4⟩ := h
  refine ⟨by omega, fun c a b => ?_, fun c d a b g => ?_, fun e' k a b c d g => ?_⟩
  · by_cases w : c = N
    · subst w
      unfold C1
      rw [up_s, up_s, up_s, up_s]
      refine ⟨⟨he, by omega, fun k u v => by rw [show k = l by omega], ?_⟩, rfl, Or.inr ⟨rfl, by omega⟩, Or.inr ⟨by omega, rfl, by omega⟩⟩
      rcases hL with ⟨p1, p2⟩ | ⟨p1, p2, _⟩
      · exact Or.inl (by omega)
      · exact Or.inr (by rw [← p2]; exact fun g => hq g.symm)
    · obtain ⟨a1, a2, a3, a4⟩ := h2 c a (by omega)
      unfold C1 C2
      rw [up_n _ _ w, up_n _ _ w, up_n _ _ w, up_n _ _ w]
      refine ⟨a1, a2, by unfold Bfo at a3 ⊢; omega, ?_⟩
      rcases a4 with a4 | ⟨q1, q2, q3⟩
      · exact Or.inl a4
      · refine Or.inl (Or.inr ?_)
        rcases hL with ⟨p1, p2⟩ | ⟨p1, p2, _⟩
        · have := a1.2.1
          rw [q2] at this
          omega
        · rw [q2, q3, show l - 1 + 1 = l by omega, ← p2]; exact hq
  · have cN : c ≠ N := by omega
    rw [up_n _ _ cN, up_n _ _ cN]
    by_cases w : d = N
    · rw [w, up_s, up_s]; exact (h2 c a (by omega)).2.2.1
    · rw [up_n _ _ w, up_n _ _ w]; exact h3 c d a b (by omega)
  · by_cases w : e' = e ∧ k = l
    · exact ⟨N, ⟨by omega, by omega⟩, by rw [up_s]; exact w.1.symm, by rw [up_s]; omega, by rw [up_s]; omega⟩
    · obtain ⟨r, r1, r2, r3, r4⟩ := h4 e' k a b c d (by unfold Bfo at g ⊢; omega)
      have rN : r ≠ N := by omega
      exact ⟨r, ⟨r1.1, by omega⟩, by rw [up_n _ _ rN]; exact r2, by rw [up_n _ _ rN]; exact r3, by rw [up_n _ _ rN]; exact r4⟩
theorem TM_most (hx : MOk x) {e l N : Int} {E S G Q : Row} (h : TM x e l N E S G Q) : N ≤ 120 := by
  have := CT_most hx h.1 (fun c a b => (h.2.1 c a b).1) h.2.2.1
  have := hx.1
  omega
def McOk (x : MT) (c : McS) : Prop := CT x c.classes c.classLast c.classShort c.classLong ∧ (∀ k, 0 ≤ k → k < c.classes → c.classEnds k = ce x (c.classLast k) (c.classLong k)) ∧ c.classes ≤ 120
theorem e_layC (hn : 1000 ≤ n) (h : MX 0 x m) (c0 : McS) : Ok (p_X7_layClasses n m c0) (McOk x) := by
  have hx := h.1
  have nn := hx.1
  have hm : m.many 0 = x.n := h.2.1
  unfold p_X7_layClasses
  refine ok_bd (P := fun r => TM x x.n 1 r.2.2.2.2 r.1 r.2.1 r.2.2.1 r.2.2.2.1) ?_ ?_
  · refine ok_lpJ (fun z => (0 ≤ z.1 ∧ z.1 ≤ x.n) ∧ TM x z.1 1 z.2.2.2.2.2 z.2.1 z.2.2.1 z.2.2.2.1 z.2.2.2.2.1) (fun z => x.n - z.1) ?_ n _ ?_ (by dsimp only; omega)
    · rintro ⟨e, E, S, G, Q, N⟩ ⟨he, hT⟩
      dsimp only at he hT ⊢
      refine ⟨by omega, ?_⟩
      unfold p_X7_layClasses_b7
      dsimp only
      rw [hm, ck_w (by omega), ck_w (by omega)]
      refine ok_ite (fun d => ?_) (fun d => ok_so (by rw [show e = x.n by omega] at hT; exact hT))
      have he' : 0 ≤ e ∧ e < x.n := ⟨he.1, d⟩
      have pp := P_in hx e
      have ww := W_in hx e
      have K := kn_ok hx e
      have kl := Kn_le hx K
      refine ok_bd (P := fun r => TM x (e + 1) 1 r.2.2.2.2 r.1 r.2.1 r.2.2.1 r.2.2.2.1) ?_ (fun r hr => ok_so ⟨⟨by dsimp only; omega, hr⟩, by dsimp only; omega⟩)
      refine ok_lpJ (fun z => (1 ≤ z.2.1 ∧ z.2.1 ≤ x.P e + 2) ∧ TM x e z.2.1 z.2.2.2.2.2.2 z.2.2.1 z.2.2.2.1 z.2.2.2.2.1 z.2.2.2.2.2.1 ∧ TL x e z.1 z.2.1 z.2.2.2.2.2.2 z.2.2.1 z.2.2.2.2.1 ∧ (0 ≤ z.1 ∧ z.1 ≤ x.n)) (fun z => x.P e + 2 - z.2.1) ?_ n _ ⟨by dsimp only; omega, hT, Or.inl ⟨by dsimp only; have := K.1; omega, rfl⟩, by dsimp only; omega⟩ (by dsimp only; omega)
      rintro ⟨q, l, E, S, G, Q, N⟩ ⟨hl, hT, hL, hq⟩
      dsimp only at hl hT hL hq ⊢
      refine ⟨by omega, ?_⟩
      have eW := e_mwordOf h he'
      have eP := (h.2.2 e he'.1 he'.2).2.2.2
      rw [show 6 * (0 : Int) + x.W e = x.W e by omega] at eP
      have most := TM_most hx hT
      have N0 := hT.1
      unfold p_X7_layClasses_b21
      dsimp only
      rw [ix_of (by omega), eW, ix_of (by omega), eP, ck_w (by omega), ck_w (by omega)]
      refine ok_ite (fun c => ?_) (fun c => ?_)
      · have el : l = x.P e + 2 := by omega
        refine ok_so ?_
        obtain ⟨t1, t2, t3, t4⟩ := hT
        refine ⟨t1, fun c a b => ?_, t3, fun e' k a b c d g => t4 e' k a b c d ?_⟩
        · obtain ⟨a1, a2, a3, a4⟩ := t2 c a b
          refine ⟨a1, a2, by unfold Bfo at a3 ⊢; dsimp only; omega, Or.inl ?_⟩
          rcases a4 with a4 | ⟨_, q1, q2⟩
          · exact a4
          · exact Or.inl (show G c = x.P (E c) + 1 by rw [q1, q2]; omega)
        · unfold Bfo at g ⊢
          have := (kn_ok hx e').1
          by_cases q : e' = e
          · rw [q] at d; omega
          · omega
      · have pr := P_R hx he' (l := l) ⟨hl.1, by omega⟩
        have rl := R_le hx (e - l + 1)
        refine ok_bd (e_firstPlace hn h (p := e - l + 1) (l := l) ⟨hl.1, pr.2.2.1⟩) ?_
        rintro f ⟨f1, f2, f3⟩
        rw [ck_w (by omega), ck_w (by omega)]
        have kf := Kn_fst hx he' K hl.1
        refine ok_ite (fun g => ?_) (fun g => ?_)
        · have kk := (kf.mp ⟨⟨hl.1, pr.2.2.1⟩, fun q a b s => f3 q a (by omega) (Sm_sy s)⟩).1
          have cl := ce_le hx e l
          have cp := cnt_pos hx (p := e - l + 1) (l := l) ⟨hl.1, pr.2.2.1⟩
          rw [← ce_cnt hx he' hl.1] at cp
          rw [e_endsAt hn h ⟨hl.1, pr.2.2.1⟩, so_bd, ← ce_cnt hx he' hl.1, ck_w (by omega), ck_w (by omega)]
          refine ok_ite (fun w => ?_) (fun w => ?_)
          · obtain ⟨p1, p2, p3, p4, p5⟩ := hL.resolve_left (fun ⟨_, b⟩ => by omega)
            unfold p_X7_layClasses_j118
            rw [ix_of (by omega)]
            refine ok_so ⟨⟨by dsimp only; omega, TM_long hx hT he' ⟨p1, by omega⟩ p3 p4 p5 (w.trans p2), Or.inr ⟨by dsimp only; omega, ?_, p3, p4, ?_⟩, hq⟩, by dsimp only; omega⟩
            · dsimp only; rw [show l + 1 - 1 = l by omega]; exact w.symm
            · dsimp only; rw [up_s]; omega
          · have nw := TM_new hx hT he' ⟨kk, by omega⟩ hL w
            unfold p_X7_layClasses_j118
            rw [ix_of (by omega), ix_of (by omega), show N + 1 - 1 = N by omega]
            refine ok_so ⟨⟨by dsimp only; omega, nw, Or.inr ⟨by dsimp only; omega, ?_, by dsimp only; omega, ?_, ?_⟩, by dsimp only; omega⟩, by dsimp only; omega⟩
            · dsimp only; rw [show l + 1 - 1 = l by omega]
            · dsimp only; rw [show N + 1 - 1 = N by omega, up_s]
            · dsimp only; rw [show N + 1 - 1 = N by omega, up_s]; omega
        · have kk : l ≤ kn x e := by
            by_cases u : l ≤ kn x e
            · exact u
            · have := (kf.mpr ⟨by omega, by omega⟩).2 f f1.1 (by omega)
              exact absurd (Sm_sy f2) this
          refine ok_so ⟨⟨by dsimp only; omega, TM_skip hx hT kk, Or.inl ⟨by dsimp only; omega, ?_⟩, hq⟩, by dsimp only; omega⟩
          rcases hL with w | w
          · exact w.2
          · omega
    · refine ⟨by dsimp only; omega, Int.le_refl 0, fun c a b => by dsimp only at b; omega, fun c d a b g => by dsimp only at g; omega, fun e' k a b c d g => ?_⟩
      unfold Bfo at g
      dsimp only at g
      have := (kn_ok hx e').1
      omega
  · rintro ⟨E, S, G, Q, N⟩ hT
    dsimp only at hT ⊢
    have most := TM_most hx hT
    obtain ⟨t1, t2, t3, t4⟩ := hT
    refine ok_so ⟨⟨t1, fun c a b => ⟨(t2 c a b).1, ?_⟩, t3, fun e l a b c d => t4 e l a b c d (Or.inl b)⟩, fun c a b => (t2 c a b).2.1, most⟩
    obtain ⟨a1, _, _, a4⟩ := t2 c a b
    rcases a4 with a4 | ⟨_, q1, _⟩
    · exact a4
    · have := a1.1.2
      have : E c = x.n := q1
      omega
end MC
