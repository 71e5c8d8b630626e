/-! kth -/
section KT
variable {n : Nat} {x : MT} {t : TxtS} {m : MtS} {s : MsS} {C : ClsS}
theorem cnt_mono {p l k : Int} (h : l ≤ k) : cnt x p k ≤ cnt x p l := by
  refine sm_le (fun q _ _ => ?_)
  by_cases w : Sm x q x p k
  · rw [ind_t w, ind_t (Sm_le w h)]; omega
  · rw [ind_f w]; exact ind_nn _
/-- the lengths from a on that stand often enough -/
def LW (x : MT) (p a f r : Int) : Prop := (f ≤ r ∧ r ≤ x.R p) ∧ ∀ l, f < l → l ≤ x.R p → (a ≤ cnt x p l ↔ l ≤ r)
theorem LW_un {p a f r r' : Int} (h : LW x p a f r) (k : LW x p a f r') : r = r' := by
  have key : ∀ r r', LW x p a f r → LW x p a f r' → r ≤ r' := by
    intro r r' h k
    by_cases q : f < r
    · exact (k.2 r q h.1.2).mp ((h.2 r q h.1.2).mpr (Int.le_refl _))
    · have := h.1; have := k.1; omega
  have := key r r' h k
  have := key r' r k h
  omega
theorem e_lengthWith (hn : 1000 ≤ n) (h : TX x t) (hC : ClsOk x C) {a p f : Int} (ha : 1 ≤ a ∧ a ≤ 60) (hp : 0 ≤ p ∧ p < x.n) (hf : 0 ≤ f ∧ f ≤ x.R p) : Ok (p_X1_lengthWith n C t a p (f + 1)) (LW x p a f) := by
  have hx := h.2
  have nn := hx.1
  have most := Cls_most hx hC
  have rr := R_le hx p
  have bp := hx.2.1 p hp.1 hp.2
  unfold p_X1_lengthWith
  rw [e_lettersFrom h (by unfold InR; omega), so_bd, show f + 1 - 1 = f by omega]
  refine ok_bd (P := fun q => ∃ r, q = .inr r ∧ LW x p a f r) ?_ ?_
  · refine ok_lpJ (fun z => (f ≤ z.1 ∧ z.1 ≤ x.R p ∧ z.2 = z.1 + 1) ∧ ∀ l, f < l → l ≤ z.1 → a ≤ cnt x p l) (fun z => x.R p + 1 - z.2) ?_ n _ ⟨by dsimp only; omega, fun l u v => by dsimp only at v; omega⟩ (by dsimp only; omega)
    rintro ⟨b, l⟩ ⟨hb, hc⟩
    dsimp only at hb hc ⊢
    refine ⟨by omega, ?_⟩
    unfold p_X1_lengthWith_b17
    dsimp only
    rw [ck_w (by omega), ck_w (by omega)]
    refine ok_ite (fun d => ok_so ⟨b, rfl, by omega, fun l' u v => ⟨fun _ => by omega, fun _ => hc l' u (by omega)⟩⟩) (fun d => ?_)
    have rp := R_P hx (p := p) (l := l) (by omega)
    have cl := hC.1.2.2.2.2 (p + l - 1) l rp.2.1.1 rp.2.1.2 (by omega) rp.2.2.2.1 (Or.inl rp.2.1.2)
    have r3 := (hC.1.2.1 _ cl.1.1 cl.1.2).1
    have e1 := ce_cs hx (by omega) cl.2.2
    have e2 := r3.1.2.2.1 l cl.2.1.1 cl.2.1.2
    have e3 := ce_cnt hx rp.2.1 (l := l) (by omega)
    rw [show p + l - 1 - l + 1 = p by omega] at e3
    have en : C.ends (C.classOf (p + l - 1) l) = cnt x p l := by rw [r3.2.2.1]; omega
    have cn := cnt_le hx p l
    rw [e_classAt (by omega) (by omega), so_bd, (e_parts1 hC most cl.1).2.2.1, so_bd, en, ck_w (by omega), ck_w (by omega)]
    refine ok_ite (fun g => ?_) (fun g => ?_)
    · refine ok_so ⟨b, rfl, by omega, fun l' u v => ⟨fun w => ?_, fun w => hc l' u w⟩⟩
      by_cases q : l' ≤ b
      · exact q
      · have := cnt_mono (x := x) (p := p) (l := l) (k := l') (by omega)
        omega
    · refine ok_so ⟨⟨by dsimp only; omega, fun l' u v => ?_⟩, by dsimp only; omega⟩
      dsimp only at v
      by_cases q : l' = l
      · rw [q]; omega
      · exact hc l' u (by omega)
  · rintro q ⟨r, rfl, hr⟩
    exact ok_so hr
theorem e_mrank (hn : 1000 ≤ n) (h : MX 0 x m) (hs : SrtOk x s.sorted s.near) {M : MpS} {a v k c r : Int} (ha : 1 ≤ a ∧ a ≤ 60) (hv : InR v) (hk : 0 ≤ k ∧ k < x.n) (hc : 0 ≤ c ∧ c ≤ 100000) (hr : LW x (s.sorted k) a (s.near k) r) (hw : ∀ l, s.near k < l → l ≤ x.R (s.sorted k) → ∃ W, p_X7_write n M m (s.sorted k) l = some W) : Ok (lp (p_X7_kth_b48 n m s a v k) n (c, s.near k + 1, M)) (fun q => ((c ≤ v ∧ v < c + (r - s.near k)) ∧ ∃ W, p_X7_write n M m (s.sorted k) (s.near k + 1 + (v - c)) = some W ∧ q = .inl (W.1, W.2, m, s)) ∨ (¬ (c ≤ v ∧ v < c + (r - s.near k)) ∧ q = .inr (c + (r - s.near k), M))) := by
  have hx := h.1
  have nn := hx.1
  have nk := near_nn hx hs hk
  have sk := hs.1.2 k hk.1 hk.2
  have rr := R_le hx (s.sorted k)
  have hr1 := hr.1
  unfold InR at hv
  refine ok_lpJ (fun z => (s.near k < z.2.1 ∧ z.2.1 ≤ x.R (s.sorted k) + 1) ∧ z.2.2 = M ∧ z.1 = c + (min (z.2.1 - 1) r - s.near k) ∧ ¬ (c ≤ v ∧ v < z.1)) (fun z => x.R (s.sorted k) + 1 - z.2.1) ?_ n _ ⟨by dsimp only; omega, rfl, by dsimp only; omega, by dsimp only; omega⟩ (by dsimp only; omega)
  rintro ⟨q, l, M'⟩ ⟨hl, hM, hq, hno⟩
  dsimp only at hl hM hq hno ⊢
  refine ⟨by omega, ?_⟩
  subst hM
  unfold p_X7_kth_b48
  dsimp only
  rw [ix_of (by omega), e_rest (Or.inl rfl) h sk, so_bd, ck_w (by omega), ck_w (by omega)]
  refine ok_ite (fun g => ?_) (fun g => ?_)
  · refine ok_so (Or.inr ⟨by omega, ?_⟩)
    rw [hq, show min (l - 1) r = r by omega]
  · have cn := cnt_le hx (s.sorted k) l
    have w := hr.2 l (by omega) (by omega)
    rw [e_mendsOf hn h hs hk (l := l) (by omega) (by omega) (by omega), so_bd, ck_w (by omega), ck_w (by omega)]
    refine ok_ite (fun u => ?_) (fun u => ?_)
    · have : ¬ l ≤ r := fun y => by have := w.mpr y; omega
      refine ok_so ⟨⟨by dsimp only; omega, rfl, by dsimp only; omega, hno⟩, by dsimp only; omega⟩
    · have lr : l ≤ r := w.mp (by omega)
      rw [ck_w (by omega), ck_w (by omega)]
      refine ok_ite (fun y => ?_) (fun y => ?_)
      · obtain ⟨W, eW⟩ := hw l (by omega) (by omega)
        rw [eW, so_bd]
        refine ok_so (Or.inl ⟨by omega, W, ?_, rfl⟩)
        rw [show s.near k + 1 + (v - c) = l by omega]; exact eW
      · exact ok_so ⟨⟨by dsimp only; omega, rfl, by dsimp only; omega, by dsimp only; omega⟩, by dsimp only; omega⟩
end KT
section KL
variable {n : Nat} {H : HisS} {V : MvS} {pr : Int} {T : TxtS} {C : ClsS} {K : SwpS} {B : BegS} {m : MtS} {s : MsS} {P : PadS} {M : MpS}
theorem e_atB {x : MT} (hx : MOk x) (hB : BegOk x B) {k : Int} (hk : 0 ≤ k ∧ k < x.n) : p_X0_startAt B k = some (B.starts k) ∧ p_X0_sharedAt B k = some (B.shared k) := by
  have nn := hx.1
  have b1 := hB.1
  unfold p_X0_startAt p_X0_sharedAt
  constructor <;> rw [ck_w (by omega), if_neg (by omega), ck_w (by omega), if_pos (by omega), ix_of (by omega)]
theorem s_kth (hn : 1000 ≤ n) (h : HR H V pr) (hP : PR P M) (hT : TxI H T) (hC : ClI H C) (hB : BgI H B) {v1 v2 : Int} (h1 : InR v1) (h2 : InR v2) : Sim (p_X6_kth n pr H P T C K B v1 v2) (p_X7_kth n V M m s v1 v2) (fun r s => r.1 = s.1 ∧ PR r.2.1 s.2.1 ∧ TxI H r.2.2.1 ∧ ClI H r.2.2.2.1 ∧ BgI H r.2.2.2.2.2) := by
  unfold p_X6_kth p_X7_kth
  rw [e_isEndCount h1, so_bd, e_in h1 (by decide) (by decide), so_bd]
  by_cases g : 1 ≤ v1 ∧ v1 ≤ 60
  · rw [if_pos g, ck_w (x := 1) (by omega), if_neg (c := (1 : Int) = 0) (by omega), ck_w (x := 1) (by omega), if_neg (c := (1 : Int) = 0) (by omega)]
    refine sim_l (e_showC hn h hT hC) ?_
    rintro ⟨T', C', K'⟩ ⟨q1, q2, q3, q4, q5⟩
    dsimp only at q1 q2 q3 q4 q5 ⊢
    refine sim_l (e_begP hn h q1 q5 hB) ?_
    rintro B' ⟨b1, b2⟩
    refine sim_r (e_layP hn h) ?_
    rintro m' ⟨m1, _⟩
    refine sim_r (e_sort hn m1 s) ?_
    intro s' hs'
    have hx := q1.2
    have nn := hx.1
    have hm : m'.many 0 = (nb (ct H pr)).n := m1.2.1
    have h2' := h2
    unfold InR at h2
    have wr : ∀ k l, 0 ≤ k → k < (nb (ct H pr)).n → s'.near k < l → l ≤ (nb (ct H pr)).R (s'.sorted k) → Sim (p_X6_write n P T' (B'.starts k) l) (p_X7_write n M m' (s'.sorted k) l) (fun r s => r.1 = l ∧ s.1 = l ∧ PR r.2 s.2) := by
      intro k l k0 k1 l0 l1
      have eq := ord_un hx b1.2 hs' ⟨k0, k1⟩
      have nk := near_nn hx hs' ⟨k0, k1⟩
      have rr := R_le hx (s'.sorted k)
      exact s_write hn q1 m1 (by omega) (Eqs_Sm hx eq (by have := eq.1; omega)) (b1.2.1.2 k k0 k1) (hs'.1.2 k k0 k1)
    have lw : ∀ k, 0 ≤ k → k < (nb (ct H pr)).n → Ok (p_X1_lengthWith n C' T' v1 (B'.starts k) (B'.shared k + 1)) (fun r => LW (nb (ct H pr)) (s'.sorted k) v1 (s'.near k) r) := by
      intro k k0 k1
      have eq := ord_un hx b1.2 hs' ⟨k0, k1⟩
      have ne := near_un hx b1.2 hs' ⟨k0, k1⟩
      have nk := near_nn hx b1.2 ⟨k0, k1⟩
      refine ok_mono (e_lengthWith hn q1 q3 g (b1.2.1.2 k k0 k1) nk) ?_
      rintro r ⟨r1, r2⟩
      have e1 := eq.1
      rw [ne] at r1 r2 nk
      rw [e1] at r1 r2
      refine ⟨r1, fun l u v => ?_⟩
      rw [← r2 l u v, cnt_Sm (Eqs_Sm hx eq (l := l) (by omega))]
    have rank : ∀ k c, 0 ≤ k → k < (nb (ct H pr)).n → 0 ≤ c → c ≤ 100000 → ∀ r, LW (nb (ct H pr)) (s'.sorted k) v1 (s'.near k) r → Ok (lp (p_X7_kth_b48 n m' s' v1 v2 k) n (c, s'.near k + 1, M)) _ := fun k c k0 k1 c0 c1 r hr => e_mrank hn m1 hs' (M := M) g h2' ⟨k0, k1⟩ ⟨c0, c1⟩ hr (fun l l0 l1 => by
      obtain ⟨_, W, _, eW, _⟩ := wr k l k0 k1 l0 l1
      exact ⟨W, eW⟩)
    by_cases neg : v2 < 0
    · -- never found
      have e1 : lp (p_X6_kth_b30 n T' C' K' B' v1) n (v2, 0, P) = some (.inr P) := by
        rw [show n = (n - 1) + 1 by omega]
        refine lp_en ?_
        unfold p_X6_kth_b30
        dsimp only
        rw [e_lengthT q1, so_bd, ck_w (by omega), ck_w (by omega)]
        by_cases d : 0 < (nb (ct H pr)).n
        · rw [if_pos d, ck_w h2, if_pos neg]
        · rw [if_neg d]
      have e2 : Ok (lp (p_X7_kth_b26 n m' s' v1 v2) n (0, 0, M)) (fun q => q = .inr M) := by
        refine ok_lpJ (fun z => (0 ≤ z.2.1 ∧ z.2.1 ≤ (nb (ct H pr)).n) ∧ (0 ≤ z.1 ∧ z.1 ≤ 60 * z.2.1) ∧ z.2.2 = M) (fun z => (nb (ct H pr)).n - z.2.1) ?_ n _ ⟨by dsimp only; omega, by dsimp only; omega, rfl⟩ (by dsimp only; omega)
        rintro ⟨c, k, M'⟩ ⟨hk, hc, hM⟩
        dsimp only at hk hc hM ⊢
        rw [hM]
        refine ⟨by omega, ?_⟩
        unfold p_X7_kth_b26
        dsimp only
        rw [hm, ck_w (by omega), ck_w (by omega)]
        refine ok_ite (fun d => ?_) (fun d => ok_so rfl)
        have nk := near_nn hx hs' ⟨hk.1, d⟩
        have rr := R_le hx (s'.sorted k)
        rw [ix_of (by omega)]
        obtain ⟨r, _, hr⟩ := lw k hk.1 d
        have hr1 := hr.1
        refine ok_bd (rank k c hk.1 d hc.1 (by omega) r hr) ?_
        rintro q (⟨w, _⟩ | ⟨_, rfl⟩)
        · omega
        · exact ok_so ⟨⟨by dsimp only; omega, by dsimp only; omega, rfl⟩, by dsimp only; omega⟩
      rw [e1, so_bd, ok_eq e2, so_bd]
      exact sim_so ⟨rfl, hP, q2, q4, b2⟩
    · have main : ∃ r r', lp (p_X6_kth_b30 n T' C' K' B' v1) n (v2, 0, P) = some r ∧ lp (p_X7_kth_b26 n m' s' v1 v2) n (0, 0, M) = some r' ∧ ((r = .inr P ∧ r' = .inr M) ∨ ∃ l P' M', r = .inl (l, P', T', C', K', B') ∧ r' = .inl (l, M', m', s') ∧ PR P' M') := by
        refine lp_sim (fun z w => (0 ≤ z.2.1 ∧ z.2.1 ≤ (nb (ct H pr)).n) ∧ w.2.1 = z.2.1 ∧ z.1 + w.1 = v2 ∧ 0 ≤ z.1 ∧ (0 ≤ w.1 ∧ w.1 ≤ 60 * w.2.1) ∧ z.2.2 = P ∧ w.2.2 = M) _ (fun z => (nb (ct H pr)).n - z.2.1) ?_ n n _ _ ⟨by dsimp only; omega, rfl, by dsimp only; omega, by dsimp only; omega, by dsimp only; omega, rfl, rfl⟩ (by dsimp only; omega) (by dsimp only; omega) (by omega) (by omega)
        rintro ⟨e, k, P0⟩ ⟨c, k', M0⟩ ⟨hk, hkk, hec, he, hc, hP0, hM0⟩
        dsimp only at hk hkk hec he hc hP0 hM0 ⊢
        subst hkk hP0 hM0
        unfold p_X6_kth_b30 p_X7_kth_b26
        dsimp only
        rw [e_lengthT q1, so_bd, hm, ck_w (by omega), ck_w (by omega), ck_w (by omega), ck_w (by omega)]
        by_cases d : k' < (nb (ct H pr)).n
        · have nk := near_nn hx hs' ⟨hk.1, d⟩
          have rr := R_le hx (s'.sorted k')
          have ne := near_un hx b1.2 hs' ⟨hk.1, d⟩
          obtain ⟨a1, a2⟩ := e_atB hx b1 ⟨hk.1, d⟩
          obtain ⟨r, er, hr⟩ := lw k' hk.1 d
          have hr1 := hr.1
          obtain ⟨q, eq, hq⟩ := rank k' c hk.1 d hc.1 (by omega) r hr
          rw [if_pos d, if_pos d, ck_w (by omega), if_neg (by omega), a1, so_bd, a2, so_bd, er, so_bd, ck_w (by omega), ix_of (by omega), eq, so_bd]
          rcases hq with ⟨w1, W, w2, rfl⟩ | ⟨w1, rfl⟩
          · obtain ⟨x1, y1, z1, z2, z3, z4, z5⟩ := wr k' (s'.near k' + 1 + (v2 - c)) hk.1 d (by omega) (by omega)
            rw [w2] at z2
            have : W = y1 := Option.some.inj z2
            subst this
            rw [if_pos (by omega), show B'.shared k' + 1 + e = s'.near k' + 1 + (v2 - c) by omega, z1, so_bd]
            exact Or.inr ⟨_, _, rfl, rfl, Or.inr ⟨x1.1, x1.2, W.2, rfl, by rw [z3, ← z4], z5⟩⟩
          · rw [if_neg (by omega)]
            exact Or.inl ⟨_, _, rfl, rfl, ⟨by dsimp only; omega, rfl, by dsimp only; omega, by dsimp only; omega, by dsimp only; omega, rfl, rfl⟩, by dsimp only; omega, by omega⟩
        · rw [if_neg d, if_neg d, ck_w (by omega)]
          exact Or.inr ⟨_, _, rfl, rfl, Or.inl ⟨rfl, rfl⟩⟩
      obtain ⟨r, r', z1, z2, z3⟩ := main
      rw [z1, so_bd, z2, so_bd]
      rcases z3 with ⟨rfl, rfl⟩ | ⟨l, P', M', rfl, rfl, z4⟩
      · exact sim_so ⟨rfl, hP, q2, q4, b2⟩
      · exact sim_so ⟨rfl, z4, q2, q4, b2⟩
  · rw [if_neg g, ck_w (x := 0) (by omega), if_pos (c := (0 : Int) = 0) rfl, ck_w (x := 0) (by omega), if_pos (c := (0 : Int) = 0) rfl]
    exact sim_so ⟨rfl, hP, hT, hC, hB⟩
end KL
