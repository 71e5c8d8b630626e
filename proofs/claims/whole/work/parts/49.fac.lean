/-! sums over classes; factors -/
section FA
variable {n : Nat} {x : MT} {t : TxtS} {m : MtS}
theorem CT_sum (hx : MOk x) {N : Int} {E S G : Row} (h : CT x N E S G) (g : Int → Int → Int) : sm (fun e => sm (fun l => ind (kn x e < l ∧ l ≤ x.P e + 1) * g e l) 61) x.n = sm (fun c => sm (fun l => ind (S c ≤ l ∧ l ≤ G c) * g (E c) l) 61) N := by
  have a : ∀ e l, 0 ≤ e → e < x.n → ind (kn x e < l ∧ l ≤ x.P e + 1) = sm (fun c => ind (E c = e ∧ S c ≤ l ∧ l ≤ G c)) N := by
    intro e l e0 e1
    by_cases q : kn x e < l ∧ l ≤ x.P e + 1
    · obtain ⟨c, c1, c2, c3, c4⟩ := h.2.2.2 e l e0 e1 q.1 q.2
      rw [ind_t q, sm_ind_one (P := fun c => E c = e ∧ S c ≤ l ∧ l ≤ G c) c1 ⟨c2, c3, c4⟩ (fun i i0 i1 w => Has_un h.2.2.1 (e := e) (l := l) ⟨⟨i0, i1⟩, w⟩ ⟨c1, c2, c3, c4⟩)]
    · rw [ind_f q, sm_zero (fun c c0 c1 => ind_f (fun w => q ?_))]
      have cc := (h.2.1 c c0 c1).1.2.1
      rw [w.1] at cc
      omega
  have b : sm (fun e => sm (fun l => ind (kn x e < l ∧ l ≤ x.P e + 1) * g e l) 61) x.n = sm (fun e => sm (fun l => sm (fun c => ind (E c = e ∧ S c ≤ l ∧ l ≤ G c) * g e l) N) 61) x.n := by
    refine sm_cg (fun e e0 e1 => sm_cg (fun l _ _ => ?_))
    rw [a e l e0 e1, Int.mul_comm, ← sm_mul]
    exact sm_cg (fun c _ _ => Int.mul_comm _ _)
  rw [b, sm_cg (f := fun e => sm (fun l => sm (fun c => ind (E c = e ∧ S c ≤ l ∧ l ≤ G c) * g e l) N) 61) (g := fun e => sm (fun c => sm (fun l => ind (E c = e ∧ S c ≤ l ∧ l ≤ G c) * g e l) 61) N) (fun e _ _ => sm_sw _ _ _), sm_sw]
  refine sm_cg (fun c c0 c1 => ?_)
  have ce := (h.2.1 c c0 c1).1.1
  rw [sm_one (k := E c) ce (fun e _ _ ne => sm_zero (fun l _ _ => by rw [ind_f (fun w => ne w.1.symm)]; simp))]
  refine sm_cg (fun l _ _ => ?_)
  rw [ind_i ⟨fun w => w.2, fun w => ⟨rfl, w⟩⟩]
noncomputable def gF (x : MT) (a b p l : Int) : Int := ind (a ≤ cnt x p l ∧ (b = 0 ∨ l = b))
theorem gF_inv (a b : Int) : Inv x (gF x a b) := fun p q l hl s => by unfold gF; rw [cnt_Sm s]
theorem FS_cls (hx : MOk x) {N : Int} {E S G : Row} (h : CT x N E S G) (g : Int → Int → Int) : FS x g = sm (fun c => sm (fun l => ind (S c ≤ l ∧ l ≤ G c) * g (E c - l + 1) l) 61) N := by
  rw [← FS_ends hx (K := kn x) (fun e _ _ => kn_ok hx e) g]
  exact CT_sum hx h (fun e l => g (e - l + 1) l)
theorem sm_bt {a b : Int} (h0 : 1 ≤ a) (hab : a ≤ b) (hm : b ≤ 60) : sm (fun l => ind (a ≤ l ∧ l ≤ b)) 61 = b - a + 1 := by
  rw [sm_cg (g := fun l => ind (a - 1 < l ∧ l ≤ b)) (fun i _ _ => ind_i (by omega)), sm_between (by omega) (by omega) (by omega)]
  omega
theorem e_factorsWith (hn : 1000 ≤ n) (hx : MOk x) {C : ClsS} (hC : ClsOk x C) {a b : Int} (ha : 1 ≤ a ∧ a ≤ 60) (hb : 0 ≤ b ∧ b ≤ 60) : p_X1_factorsWith n C a b = some (FS x (gF x a b)) := by
  have most := Cls_most hx hC
  have N0 := hC.1.1
  have nn := hx.1
  rw [FS_cls hx (ClsOk_CT hx hC) (gF x a b)]
  unfold p_X1_factorsWith
  have : Ok (lp (p_X1_factorsWith_b5 n C a b) n (0, 0)) (fun r => r = sm (fun c => sm (fun l => ind (C.shortest c ≤ l ∧ l ≤ C.longest c) * gF x a b (C.firstEnds c - l + 1) l) 61) C.size) := by
    refine ok_lpJ (fun z => (0 ≤ z.2 ∧ z.2 ≤ C.size) ∧ z.1 = sm (fun c => sm (fun l => ind (C.shortest c ≤ l ∧ l ≤ C.longest c) * gF x a b (C.firstEnds c - l + 1) l) 61) z.2) (fun z => C.size - z.2) ?_ n _ ⟨by dsimp only; omega, by dsimp only; rw [sm_0 (Int.le_refl 0)]⟩ (by dsimp only; omega)
    rintro ⟨r, c⟩ ⟨hc, hr⟩
    dsimp only at hc hr ⊢
    refine ⟨by omega, ?_⟩
    unfold p_X1_factorsWith_b5
    dsimp only
    rw [ck_w (by omega), ck_w (by omega)]
    refine ok_ite (fun d => ?_) (fun d => ok_so (by rw [hr, show c = C.size by omega]; rfl))
    have r1 := (hC.1.2.1 c hc.1 d).1
    have c1 := r1.1
    have c11 := c1.1
    have c12 := c1.2.1
    have k1 := (kn_ok hx (C.firstEnds c)).1
    have p1 := P_in hx (C.firstEnds c)
    have en := r1.2.2.1
    have el := ce_le hx (C.firstEnds c) (C.longest c)
    have inner : ∀ l, ind (C.shortest c ≤ l ∧ l ≤ C.longest c) * gF x a b (C.firstEnds c - l + 1) l = ind ((C.shortest c ≤ l ∧ l ≤ C.longest c) ∧ a ≤ C.ends c ∧ (b = 0 ∨ l = b)) := by
      intro l
      unfold gF
      rw [← ind_and]
      refine ind_i ⟨fun w => ?_, fun w => ?_⟩
      · have e1 := ce_cnt hx c11 (l := l) (by omega)
        have e2 := c1.2.2.1 l w.1.1 w.1.2
        exact ⟨w.1, by rw [en, ← e2, e1]; exact w.2.1, w.2.2⟩
      · have e1 := ce_cnt hx c11 (l := l) (by omega)
        have e2 := c1.2.2.1 l w.1.1 w.1.2
        exact ⟨w.1, by rw [← e1, e2, ← en]; exact w.2.1, w.2.2⟩
    have step : ∀ v : Int, (sm (fun l => ind ((C.shortest c ≤ l ∧ l ≤ C.longest c) ∧ a ≤ C.ends c ∧ (b = 0 ∨ l = b))) 61 = v) → r + v = sm (fun c => sm (fun l => ind (C.shortest c ≤ l ∧ l ≤ C.longest c) * gF x a b (C.firstEnds c - l + 1) l) 61) (c + 1) := by
      intro v hv
      rw [sm_s hc.1, sm_cg (f := fun l => ind (C.shortest c ≤ l ∧ l ≤ C.longest c) * gF x a b (C.firstEnds c - l + 1) l) (fun l _ _ => inner l), hv, ← hr]
    rw [ix_of (by omega), ck_w (by omega), ck_w (by omega)]
    refine ok_ite (fun g => ?_) (fun g => ?_)
    · refine ok_so ⟨⟨by dsimp only; omega, ?_⟩, by dsimp only; omega⟩
      dsimp only
      rw [← step 0 (sm_zero (fun l _ _ => ind_f (fun w => by omega)))]; omega
    · rw [ck_w (by omega)]
      refine ok_ite (fun g2 => ?_) (fun g2 => ?_)
      · refine ok_so ⟨⟨by dsimp only; omega, ?_⟩, by dsimp only; omega⟩
        dsimp only
        refine step _ ?_
        rw [sm_cg (g := fun l => ind (C.shortest c ≤ l ∧ l ≤ C.longest c)) (fun l _ _ => ind_i (by omega)), sm_bt (by omega) (by omega) (by omega)]
      · rw [ck_w (by omega)]
        refine ok_ite (fun g3 => ?_) (fun g3 => ?_)
        · refine ok_so ⟨⟨by dsimp only; omega, ?_⟩, by dsimp only; omega⟩
          dsimp only
          rw [← step 0 (sm_zero (fun l _ _ => ind_f (fun w => by omega)))]; omega
        · rw [ck_w (by omega)]
          refine ok_ite (fun g4 => ?_) (fun g4 => ?_)
          · refine ok_so ⟨⟨by dsimp only; omega, ?_⟩, by dsimp only; omega⟩
            dsimp only
            rw [← step 0 (sm_zero (fun l _ _ => ind_f (fun w => by omega)))]; omega
          · refine ok_so ⟨⟨by dsimp only; omega, ?_⟩, by dsimp only; omega⟩
            dsimp only
            refine step 1 (sm_ind_one (P := fun l => (C.shortest c ≤ l ∧ l ≤ C.longest c) ∧ a ≤ C.ends c ∧ (b = 0 ∨ l = b)) (k := b) (by omega) ⟨by omega, by omega, Or.inr rfl⟩ (fun i _ _ w => by omega))
  rw [ok_eq this, so_bd]
/-- a sum over the lengths of one rank, and over the ranks -/
theorem e_mfactors (hn : 1000 ≤ n) (h : MX 0 x m) {s : MsS} (hs : SrtOk x s.sorted s.near) {a b : Int} (ha : 1 ≤ a ∧ a ≤ 60) (hb : 0 ≤ b ∧ b ≤ 60) : Ok (lp (p_X7_factors_b36 n m s a b) n (0, 0)) (fun r => r = FS x (gF x a b)) := by
  have hx := h.1
  have nn := hx.1
  have hm : m.many 0 = x.n := h.2.1
  rw [← FS_rank hx hs (gF_inv a b)]
  refine ok_lpJ (fun z => (0 ≤ z.2 ∧ z.2 ≤ x.n) ∧ z.1 = sm (fun k => sm (fun l => ind (s.near k < l ∧ l ≤ x.R (s.sorted k)) * gF x a b (s.sorted k) l) 61) z.2) (fun z => x.n - z.2) ?_ n _ ⟨by dsimp only; omega, by dsimp only; rw [sm_0 (Int.le_refl 0)]⟩ (by dsimp only; omega)
  rintro ⟨r, k⟩ ⟨hk, hr⟩
  dsimp only at hk hr ⊢
  refine ⟨by omega, ?_⟩
  unfold p_X7_factors_b36
  dsimp only
  rw [hm, ck_w (by omega), ck_w (by omega)]
  refine ok_ite (fun d => ?_) (fun d => ok_so (by rw [hr, show k = x.n by omega]; rfl))
  have nk := near_nn hx hs ⟨hk.1, d⟩
  have sk := hs.1.2 k hk.1 d
  have rr := R_le hx (s.sorted k)
  rw [ix_of (by omega)]
  refine ok_bd (P := fun q => q = r + sm (fun l => ind (s.near k < l ∧ l ≤ x.R (s.sorted k)) * gF x a b (s.sorted k) l) 61) ?_ (fun q hq => ok_so ⟨⟨by dsimp only; omega, by dsimp only; rw [sm_s hk.1, hq, hr]⟩, by dsimp only; omega⟩)
  refine ok_lpJ (fun z => (s.near k < z.2 ∧ z.2 ≤ x.R (s.sorted k) + 1) ∧ z.1 = r + sm (fun l => ind (s.near k < l ∧ l ≤ x.R (s.sorted k)) * gF x a b (s.sorted k) l) z.2) (fun z => x.R (s.sorted k) + 1 - z.2) ?_ n _ ⟨by dsimp only; omega, ?_⟩ (by dsimp only; omega)
  · rintro ⟨q, l⟩ ⟨hl, hq⟩
    dsimp only at hl hq ⊢
    refine ⟨by omega, ?_⟩
    unfold p_X7_factors_b58
    dsimp only
    rw [ix_of (by omega), e_rest (Or.inl rfl) h sk, so_bd, ck_w (by omega), ck_w (by omega)]
    refine ok_ite (fun g => ?_) (fun g => ?_)
    · refine ok_so ?_
      rw [hq, sm_tail (a := l) (b := 61) (by omega) (fun p u v w => by rw [ind_f (by omega)]; simp)]; rfl
    · have cn := cnt_le hx (s.sorted k) l
      have stp : ∀ v : Int, gF x a b (s.sorted k) l = v → q + v = r + sm (fun l => ind (s.near k < l ∧ l ≤ x.R (s.sorted k)) * gF x a b (s.sorted k) l) (l + 1) := by
        intro v hv
        rw [sm_s (by omega), hv, ind_t (by omega), hq]; omega
      have cnd : (b = 0 ∨ l = b) → Ok (p_X7_factors_j86 n m s a k l q) (LI (fun z => (s.near k < z.2 ∧ z.2 ≤ x.R (s.sorted k) + 1) ∧ z.1 = r + sm (fun l => ind (s.near k < l ∧ l ≤ x.R (s.sorted k)) * gF x a b (s.sorted k) l) z.2) (fun z => x.R (s.sorted k) + 1 - z.2) (x.R (s.sorted k) + 1 - l) (fun q => q = r + sm (fun l => ind (s.near k < l ∧ l ≤ x.R (s.sorted k)) * gF x a b (s.sorted k) l) 61)) := by
        intro w
        unfold p_X7_factors_j86
        rw [e_mendsOf hn h hs ⟨hk.1, d⟩ (l := l) (by omega) (by omega) (by omega), so_bd, ck_w (by omega), ck_w (by omega)]
        refine ok_ite (fun u => ?_) (fun u => ?_)
        · exact ok_so ⟨⟨by dsimp only; omega, stp 0 (ind_f (fun y => by omega))⟩, by dsimp only; omega⟩
        · exact ok_so ⟨⟨by dsimp only; omega, stp 1 (ind_t ⟨by omega, w⟩)⟩, by dsimp only; omega⟩
      rw [ck_w (by omega)]
      refine ok_ite (fun u => cnd (Or.inl u)) (fun u => ok_ite (fun u2 => cnd (Or.inr u2)) (fun u2 => ?_))
      exact ok_so ⟨⟨by dsimp only; omega, stp 0 (ind_f (fun y => by omega))⟩, by dsimp only; omega⟩
  · dsimp only
    rw [sm_zero (fun l u v => by rw [ind_f (by omega)]; simp)]; omega
end FA
section KI
variable {n : Nat} {H : HisS} {V : MvS} {pr : Int} {T : TxtS} {C : ClsS} {K : SwpS} {m : MtS} {s : MsS}
theorem e_isEndCount {v : Int} (hv : InR v) : p_X6_isEndCount v = some (if 1 ≤ v ∧ v ≤ 60 then 1 else 0) := by
  unfold InR at hv
  unfold p_X6_isEndCount
  rw [ck_w hv]
  by_cases a : v < 1
  · rw [if_pos a, if_neg (by omega)]
  · by_cases b : 60 < v
    · rw [if_neg a, if_pos b, if_neg (by omega)]
    · rw [if_neg a, if_neg b, if_pos (by omega)]
theorem s_factors (hn : 1000 ≤ n) (h : HR H V pr) (hT : TxI H T) (hC : ClI H C) {v1 v2 : Int} (h1 : InR v1) (h2 : InR v2) : Sim (p_X6_factors n pr H T C K v1 v2) (p_X7_factors n V m s v1 v2) (fun r s => r.1 = s.1 ∧ TxI H r.2.1 ∧ ClI H r.2.2.1) := by
  unfold p_X6_factors p_X7_factors
  rw [e_isEndCount h1, so_bd, e_in h1 (by decide) (by decide), so_bd]
  by_cases g : 1 ≤ v1 ∧ v1 ≤ 60
  · rw [if_pos g, ck_w (x := 1) (by omega), if_neg (c := (1 : Int) = 0) (by omega), ck_w (x := 1) (by omega), if_neg (c := (1 : Int) = 0) (by omega), e_in h2 (by decide) (by decide), so_bd]
    unfold InR at h2
    rw [ck_w h2]
    by_cases g2 : 0 ≤ v2 ∧ v2 ≤ 60
    · rw [if_neg (c := v2 < 0) (by omega), if_neg (c := 60 < v2) (by omega), if_pos g2, ck_w (x := 1) (by omega), if_neg (c := (1 : Int) = 0) (by omega)]
      refine sim_l (e_showC hn h hT hC) ?_
      rintro ⟨T', C', K'⟩ ⟨q1, q2, q3, q4, q5⟩
      refine sim_r (e_layP hn h) ?_
      rintro m' ⟨m1, _⟩
      refine sim_r (e_sort hn m1 s) ?_
      intro s' hs'
      dsimp only at q1 q2 q3 q4 q5 ⊢
      rw [e_factorsWith hn q1.2 q3 g g2, so_bd]
      refine sim_r (e_mfactors hn m1 hs' g g2) (fun r hr => sim_so ⟨hr.symm, q2, q4⟩)
    · rw [if_neg (c := 0 ≤ v2 ∧ v2 ≤ 60) g2, ck_w (x := 0) (by omega), if_pos (c := (0 : Int) = 0) rfl]
      by_cases a : v2 < 0
      · rw [if_pos a]
        exact sim_so ⟨rfl, hT, hC⟩
      · rw [if_neg a, if_pos (by omega)]
        exact sim_so ⟨rfl, hT, hC⟩
  · rw [if_neg g, ck_w (x := 0) (by omega), if_pos (c := (0 : Int) = 0) rfl, ck_w (x := 0) (by omega), if_pos (c := (0 : Int) = 0) rfl]
    exact sim_so ⟨rfl, hT, hC⟩
end KI
