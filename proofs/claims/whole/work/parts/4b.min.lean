/-! count and minimal -/
section CN
variable {n : Nat} {H : HisS} {V : MvS} {pr : Int} {T : TxtS} {C : ClsS} {K : SwpS} {m : MtS} {s : MsS} {c : McS}
theorem s_count (hn : 1000 ≤ n) (h : HR H V pr) (hT : TxI H T) (hC : ClI H C) {v1 : Int} (h1 : InR v1) : Sim (p_X6_count n pr H T C K v1) (p_X7_count n V m s c v1) (fun r s => r.1 = s.1 ∧ TxI H r.2.1 ∧ ClI H r.2.2.1) := by
  have hH := h.1
  have hz := hH.1
  have hV := h.2.1
  have vs : V.versions = H.size := hV.1
  have hw : 0 ≤ pr ∧ pr < H.size := h.2.2.2
  have hp := h.2.2.1
  have wm := hV.2.2.1 pr hw.1 hw.2
  unfold p_X6_count p_X7_count
  rw [e_in h1 (by decide) (by decide), so_bd]
  unfold InR at h1
  rw [ck_w h1]
  by_cases g : 0 ≤ v1 ∧ v1 ≤ 6
  · rw [if_neg (c := v1 < 0) (by omega), if_neg (c := 6 < v1) (by omega), if_pos g, ck_w (x := 1) (by omega), if_neg (c := (1 : Int) = 0) (by omega)]
    refine sim_r (e_layP hn h) ?_
    rintro m' ⟨m1, _⟩
    refine sim_r (e_sort hn m1 s) ?_
    intro s' hs'
    rw [ck_w h1]
    by_cases g2 : 3 < v1
    · rw [if_pos g2]
      refine sim_l (e_showC hn h hT hC) ?_
      rintro ⟨T', C', K'⟩ ⟨q1, q2, q3, q4, q5⟩
      dsimp only at q1 q2 q3 q4 q5 ⊢
      have hx := q1.2
      unfold p_X6_count_j22
      rw [ck_w h1]
      simp (disch := omega) only [if_neg]
      by_cases c4 : v1 = 4
      · rw [if_pos c4, if_pos c4]
        unfold p_X1_size
        rw [so_bd]
        refine sim_r (e_layC hn m1 c) (fun c' hc' => sim_so ⟨(Two_of hx q3 hc').2.2.1, q2, q4⟩)
      by_cases c5 : v1 = 5
      · rw [if_neg c4, if_neg c4, if_pos c5, if_pos c5]
        refine sim_r (e_layC hn m1 c) (fun c' hc' => ?_)
        refine sim_bd (s_allSteps hn m1 (Two_of hx q3 hc')) (fun r s e => sim_so ⟨e, q2, q4⟩)
      · rw [if_neg c4, if_neg c4, if_neg c5, if_neg c5]
        refine sim_l (e_longestRepeat hn hx q3) (fun r hr => sim_r (e_longestTwice hn m1 hs') (fun q hq => sim_so ⟨Lr_un hr hq, q2, q4⟩))
    · rw [if_neg g2]
      unfold p_X6_count_j22
      rw [ck_w h1]
      by_cases c0 : v1 = 0
      · rw [if_pos c0, if_pos c0]
        exact sim_so ⟨hp.symm, hT, hC⟩
      by_cases c1 : v1 = 1
      · rw [if_neg c0, if_neg c0, if_pos c1, if_pos c1]
        unfold p_X2_size
        rw [so_bd]
        exact sim_so ⟨vs.symm, hT, hC⟩
      by_cases c2 : v1 = 2
      · rw [if_neg c0, if_neg c0, if_neg c1, if_neg c1, if_pos c2, if_pos c2, e_wordsIn hz hw, so_bd, hp, ix_of (by omega)]
        exact sim_so ⟨wm.1.symm, hT, hC⟩
      · have c3 : v1 = 3 := by omega
        rw [if_neg c0, if_neg c0, if_neg c1, if_neg c1, if_neg c2, if_neg c2, if_pos c3, if_pos c3, e_lettersIn hz hw, so_bd, hp, ix_of (by omega)]
        exact sim_so ⟨wm.2.symm, hT, hC⟩
  · rw [if_neg (c := 0 ≤ v1 ∧ v1 ≤ 6) g, ck_w (x := 0) (by omega), if_pos (c := (0 : Int) = 0) rfl]
    by_cases a : v1 < 0
    · rw [if_pos a]
      exact sim_so ⟨rfl, hT, hC⟩
    · rw [if_neg a, if_pos (by omega)]
      exact sim_so ⟨rfl, hT, hC⟩
end CN
section MI
variable {n : Nat} {x : MT} {m : MtS}
theorem bit8 : ∀ v : Nat, v < 256 → ∀ i : Nat, i < 8 → biand (bishr (v : Int) (i : Int)) 1 = if tb v i = true then 1 else 0 := by decide +kernel
theorem sz_ind {v : Int} (h : 0 ≤ v ∧ v < 256) : sz v = sm (fun i => ind (tb v i.toNat = true)) 8 := by
  obtain ⟨w, rfl⟩ := Int.eq_ofNat_of_zero_le h.1
  refine sm_cg (fun i i0 i1 => ?_)
  obtain ⟨k, rfl⟩ := Int.eq_ofNat_of_zero_le i0
  rw [bit8 w (by omega) k (by omega), Int.toNat_natCast]
  by_cases q : tb w k = true
  · rw [if_pos q, ind_t q]
  · rw [if_neg q, ind_f q]
theorem sm_lt {f g : Int → Int} {N k : Int} (hk : 0 ≤ k ∧ k < N) (h : ∀ i, 0 ≤ i → i < N → f i ≤ g i) (hs : f k < g k) : sm f N < sm g N := by
  have a := sm_ge (f := fun i => g i + (-1) * f i) hk (fun i i0 i1 => by have := h i i0 i1; omega)
  rw [sm_add, sm_mul] at a
  omega
theorem ce_same (hx : MOk x) {e l k d : Int} (hl : l ≤ k) (h : ce x e l = ce x e k) (hd : 0 ≤ d ∧ d < x.n) (q : l ≤ cs x d x e) : k ≤ cs x d x e := by
  refine Classical.byContradiction (fun no => ?_)
  have : sm (fun d => ind (k ≤ cs x d x e)) x.n < sm (fun d => ind (l ≤ cs x d x e)) x.n := by
    refine sm_lt hd (fun i _ _ => ?_) (by rw [ind_f no, ind_t q]; omega)
    by_cases w : k ≤ cs x i x e
    · rw [ind_t w, ind_t (by omega)]; omega
    · rw [ind_f w]; exact ind_nn _
  unfold ce at h
  omega
/-- a letter follows the stretch of l letters that ends at e; of none: it stands somewhere -/
def Fo (x : MT) (e l v : Int) : Prop := (l = 0 ∧ ∃ d, (0 ≤ d ∧ d < x.n) ∧ x.L d = v) ∨ (1 ≤ l ∧ ∃ d, ((0 ≤ d ∧ d < x.n) ∧ l ≤ cs x d x e ∧ 1 < x.R d) ∧ x.L (d + 1) = v)
theorem Fo_SS {e l s : Int} (hl : 1 ≤ l) (h : SS x e l s) {k : Nat} (hk : k < 32) : tb s k = true ↔ Fo x e l k := by
  rw [h.2 k hk]
  exact ⟨fun q => Or.inr ⟨hl, q⟩, fun q => by
    rcases q with ⟨q, _⟩ | ⟨_, q⟩
    · omega
    · exact q⟩
theorem Fo_L {e s : Int} (h : LtS x x.n s) {k : Nat} (hk : k < 32) : tb s k = true ↔ Fo x e 0 k := by
  rw [h.2 k hk]
  exact ⟨fun q => Or.inl ⟨rfl, q⟩, fun q => by
    rcases q with ⟨_, q⟩ | ⟨q, _⟩
    · exact q
    · omega⟩
theorem NX_to (hx : MOk x) {p l s : Int} (hl : 1 ≤ l ∧ l ≤ x.R p) (h : NX x p l s) : SS x (p + l - 1) l s := by
  have rp := R_P hx hl
  refine ⟨h.1, fun k hk => ?_⟩
  rw [h.2 k hk]
  constructor
  · rintro ⟨q, ⟨q1, q2, q3⟩, qv⟩
    have rq := R_P hx ⟨hl.1, q2.1⟩
    refine ⟨q + l - 1, ⟨rq.2.1, ((Sm_cs hx hl.1).mp q2).2.2, by omega⟩, ?_⟩
    dsimp only
    rw [show q + l - 1 + 1 = q + l by omega]; exact qv
  · rintro ⟨d, ⟨d1, d2, d3⟩, dv⟩
    have s := (cs_Sm hx d1 rp.2.1 hl.1).mp d2
    have rq := R_P hx ⟨hl.1, s.1⟩
    rw [show d - l + 1 + l - 1 = d by omega] at rq
    rw [show p + l - 1 - l + 1 = p by omega] at s
    refine ⟨d - l + 1, ⟨rq.1, s, by omega⟩, ?_⟩
    dsimp only
    rw [show d - l + 1 + l = d + 1 by omega]; exact dv
theorem Fo_cs (hx : MOk x) {e d l v : Int} (h : l ≤ cs x e x d) : Fo x e l v ↔ Fo x d l v := by
  have key : ∀ e d, l ≤ cs x e x d → Fo x e l v → Fo x d l v := by
    intro e d h q
    rcases q with q | ⟨q, i, ⟨i1, i2, i3⟩, iv⟩
    · exact Or.inl q
    · exact Or.inr ⟨q, i, ⟨i1, cs_tr hx (by omega) i2 h, i3⟩, iv⟩
  exact ⟨key e d h, key d e (by rw [cs_sy hx]; exact h)⟩
theorem Fo_ce (hx : MOk x) {e l k v : Int} (h1 : 1 ≤ l) (hl : l ≤ k) (h : ce x e l = ce x e k) : Fo x e l v ↔ Fo x e k v := by
  constructor
  · intro q
    rcases q with q | ⟨q, i, ⟨i1, i2, i3⟩, iv⟩
    · omega
    · exact Or.inr ⟨by omega, i, ⟨i1, ce_same hx hl h i1 i2, i3⟩, iv⟩
  · intro q
    rcases q with q | ⟨q, i, ⟨i1, i2, i3⟩, iv⟩
    · omega
    · exact Or.inr ⟨h1, i, ⟨i1, by omega, i3⟩, iv⟩
noncomputable def gM (x : MT) (p l : Int) : Int := sm (fun v => ind (Fo x (p + l - 1) (l - 1) v ∧ ¬ Fo x (p + l - 1) l v)) 8
theorem gM_inv (hx : MOk x) : Inv x (gM x) := by
  intro p q l hl s
  have cf := ((Sm_cs hx hl).mp s).2.2
  unfold gM
  refine sm_cg (fun v _ _ => ind_i ?_)
  rw [Fo_cs hx cf, Fo_cs hx (l := l - 1) (v := v) (e := p + l - 1) (d := q + l - 1) (by omega)]
theorem sz_gM {a b e l : Int} (ha : 0 ≤ a ∧ a < 256) (h1 : ∀ k : Nat, k < 32 → (tb a k = true ↔ Fo x e (l - 1) k)) (h2 : ∀ k : Nat, k < 32 → (tb b k = true ↔ Fo x e l k)) : sz (biand a (bixor b (-1))) = gM x (e - l + 1) l := by
  rw [sz_ind (and_small ha)]
  unfold gM
  refine sm_cg (fun v v0 v1 => ?_)
  obtain ⟨k, rfl⟩ := Int.eq_ofNat_of_zero_le v0
  rw [show e - l + 1 + l - 1 = e by omega, Int.toNat_natCast, tb_and, tb_xor, tb_m1 k (by omega)]
  refine ind_i ?_
  rw [← h1 k (by omega), ← h2 k (by omega)]
  cases tb a k <;> cases tb b k <;> simp
theorem e_minimalAbsent (hn : 1000 ≤ n) (hx : MOk x) {C : ClsS} (hC : ClsOk x C) : p_X1_minimalAbsent n C = some (FS x (gM x)) := by
  have most := Cls_most hx hC
  have N0 := hC.1.1
  have nn := hx.1
  rw [FS_cls hx (ClsOk_CT hx hC) (gM x)]
  unfold p_X1_minimalAbsent
  have : Ok (lp (p_X1_minimalAbsent_b4 n C) n (0, 0)) (fun r => r = sm (fun c => sm (fun l => ind (C.shortest c ≤ l ∧ l ≤ C.longest c) * gM x (C.firstEnds c - l + 1) l) 61) C.size) := by
    refine ok_lpJ (fun z => (0 ≤ z.2 ∧ z.2 ≤ C.size) ∧ z.1 = sm (fun c => sm (fun l => ind (C.shortest c ≤ l ∧ l ≤ C.longest c) * gM x (C.firstEnds c - l + 1) l) 61) z.2) (fun z => C.size - z.2) ?_ n _ ⟨by dsimp only; omega, by dsimp only; rw [sm_0 (Int.le_refl 0)]⟩ (by dsimp only; omega)
    rintro ⟨r, c⟩ ⟨hc, hr⟩
    dsimp only at hc hr ⊢
    refine ⟨by omega, ?_⟩
    unfold p_X1_minimalAbsent_b4
    dsimp only
    rw [ck_w (by omega), ck_w (by omega)]
    refine ok_ite (fun d => ?_) (fun d => ok_so (by rw [hr, show c = C.size by omega]; rfl))
    have r1 := (hC.1.2.1 c hc.1 d).1
    have c1 := r1.1
    have c11 := c1.1
    have c12 := c1.2.1
    have k1 := (kn_ok hx (C.firstEnds c)).1
    have p1 := P_in hx (C.firstEnds c)
    have ss := r1.2.2.2.2.2
    have inner : sm (fun l => ind (C.shortest c ≤ l ∧ l ≤ C.longest c) * gM x (C.firstEnds c - l + 1) l) 61 = gM x (C.firstEnds c - C.shortest c + 1) (C.shortest c) := by
      rw [sm_one (k := C.shortest c) (by omega) (fun l l0 l1 ne => ?_)]
      · rw [ind_t (by omega)]; omega
      · by_cases w : C.shortest c ≤ l ∧ l ≤ C.longest c
        · have z : gM x (C.firstEnds c - l + 1) l = 0 := by
            refine sm_zero (fun v _ _ => ind_f (fun q => ?_))
            rw [show C.firstEnds c - l + 1 + l - 1 = C.firstEnds c by omega] at q
            have e1 := c1.2.2.1 (l - 1) (by omega) (by omega)
            have e2 := c1.2.2.1 l w.1 w.2
            exact q.2 ((Fo_ce hx (by omega) (by omega) (e1.trans e2.symm)).mp q.1)
          rw [z]; simp
        · rw [ind_f w]; simp
    have h2 : ∀ k : Nat, k < 32 → (tb (C.stepSets c) k = true ↔ Fo x (C.firstEnds c) (C.shortest c) k) := by
      intro k hk
      rw [Fo_SS (by omega) ss hk]
      exact (Fo_ce hx (by omega) c12.2.1 (c1.2.2.1 _ (Int.le_refl _) c12.2.1)).symm
    have fin : ∀ a : Int, p_X1_stepsOf C (C.links c) = some a → (0 ≤ a ∧ a < 256) → (∀ k : Nat, k < 32 → (tb a k = true ↔ Fo x (C.firstEnds c) (C.shortest c - 1) k)) → Ok (ix c 120 ((p_X1_stepsOf C (C.links c)).bind fun r11 => (p_J6_bitCount_0f7a4 (biand r11 (bixor (C.stepSets c) (-1)))).bind fun r15 => some (Sum.inl (r + r15, c + 1)))) (LI (fun z => (0 ≤ z.2 ∧ z.2 ≤ C.size) ∧ z.1 = sm (fun c => sm (fun l => ind (C.shortest c ≤ l ∧ l ≤ C.longest c) * gM x (C.firstEnds c - l + 1) l) 61) z.2) (fun z => C.size - z.2) (C.size - c) (fun r : Int => r = sm (fun c => sm (fun l => ind (C.shortest c ≤ l ∧ l ≤ C.longest c) * gM x (C.firstEnds c - l + 1) l) 61) C.size)) := by
      intro a ea ha h1
      rw [ix_of (by omega), ea, so_bd, e_bitCount (and_small ha), so_bd, sz_gM ha h1 h2]
      refine ok_so ⟨⟨by dsimp only; omega, ?_⟩, by dsimp only; omega⟩
      dsimp only
      rw [sm_s hc.1, inner, hr]
    rcases r1.2.2.2.1 with ⟨q1, q2⟩ | ⟨q1, q2⟩
    · refine fin C.letterSet ?_ (LtS_small hx hC.2) (fun k hk => ?_)
      · unfold p_X1_stepsOf
        rw [q2, e_hasC hC most (by decide), if_neg (by omega), so_bd, ck_w (by omega), if_pos rfl]
      · rw [show C.shortest c - 1 = 0 by omega]; exact Fo_L hC.2 hk
    · have r2 := (hC.1.2.1 _ q2.1.1 q2.1.2).1
      have e1 := e_parts1 hC most q2.1
      have b1 := r2.1.2.1
      have b0 := (kn_ok hx (C.firstEnds (C.links c))).1
      refine fin (C.stepSets (C.links c)) e1.2.2.2.2.1 (SS_small hx r2.2.2.2.2.2) (fun k hk => ?_)
      rw [Fo_SS (by omega) r2.2.2.2.2.2 hk, Fo_cs hx q2.2.2]
      exact (Fo_ce hx (by omega) q2.2.1.2 (r2.1.2.2.1 _ q2.2.1.1 q2.2.1.2)).symm
  rw [ok_eq this, so_bd]
theorem e_mminimal (hn : 1000 ≤ n) (h : MX 0 x m) {s : MsS} (hs : SrtOk x s.sorted s.near) : Ok (lp (p_X7_minimal_b12 n m s) n (0, 0)) (fun r => r = FS x (gM x)) := by
  have hx := h.1
  have nn := hx.1
  have hm : m.many 0 = x.n := h.2.1
  rw [← FS_rank hx hs (gM_inv hx)]
  refine ok_lpJ (fun z => (0 ≤ z.2 ∧ z.2 ≤ x.n) ∧ z.1 = sm (fun k => sm (fun l => ind (s.near k < l ∧ l ≤ x.R (s.sorted k)) * gM x (s.sorted k) l) 61) z.2) (fun z => x.n - z.2) ?_ n _ ⟨by dsimp only; omega, by dsimp only; rw [sm_0 (Int.le_refl 0)]⟩ (by dsimp only; omega)
  rintro ⟨r, k⟩ ⟨hk, hr⟩
  dsimp only at hk hr ⊢
  refine ⟨by omega, ?_⟩
  unfold p_X7_minimal_b12
  dsimp only
  rw [hm, ck_w (by omega), ck_w (by omega)]
  refine ok_ite (fun d => ?_) (fun d => ok_so (by rw [hr, show k = x.n by omega]; rfl))
  have nk := near_nn hx hs ⟨hk.1, d⟩
  have sk := hs.1.2 k hk.1 d
  have rr := R_le hx (s.sorted k)
  rw [ix_of (by omega)]
  refine ok_bd (P := fun q => q = r + sm (fun l => ind (s.near k < l ∧ l ≤ x.R (s.sorted k)) * gM x (s.sorted k) l) 61) ?_ (fun q hq => ok_so ⟨⟨by dsimp only; omega, by dsimp only; rw [sm_s hk.1, hq, hr]⟩, by dsimp only; omega⟩)
  refine ok_lpJ (fun z => (s.near k < z.2 ∧ z.2 ≤ x.R (s.sorted k) + 1) ∧ z.1 = r + sm (fun l => ind (s.near k < l ∧ l ≤ x.R (s.sorted k)) * gM x (s.sorted k) l) z.2) (fun z => x.R (s.sorted k) + 1 - z.2) ?_ n _ ⟨by dsimp only; omega, ?_⟩ (by dsimp only; omega)
  · rintro ⟨q, l⟩ ⟨hl, hq⟩
    dsimp only at hl hq ⊢
    refine ⟨by omega, ?_⟩
    unfold p_X7_minimal_b31
    dsimp only
    rw [ix_of (by omega), e_rest (Or.inl rfl) h sk, so_bd, ck_w (by omega), ck_w (by omega)]
    refine ok_ite (fun g => ?_) (fun g => ?_)
    · refine ok_so ?_
      rw [hq, sm_tail (a := l) (b := 61) (by omega) (fun p u v w => by rw [ind_f (by omega)]; simp)]; rfl
    · have fin : ∀ a : Int, (0 ≤ a ∧ a < 256) → (∀ j : Nat, j < 32 → (tb a j = true ↔ Fo x (s.sorted k + l - 1) (l - 1) j)) → Ok (p_X7_minimal_j73 n m s k q l a) (LI (fun z => (s.near k < z.2 ∧ z.2 ≤ x.R (s.sorted k) + 1) ∧ z.1 = r + sm (fun l => ind (s.near k < l ∧ l ≤ x.R (s.sorted k)) * gM x (s.sorted k) l) z.2) (fun z => x.R (s.sorted k) + 1 - z.2) (x.R (s.sorted k) + 1 - l) (fun q => q = r + sm (fun l => ind (s.near k < l ∧ l ≤ x.R (s.sorted k)) * gM x (s.sorted k) l) 61)) := by
        intro a ha h1
        unfold p_X7_minimal_j73
        rw [ix_of (by omega)]
        refine ok_bd (e_nextOf hn h (p := s.sorted k) (l := l) (by omega)) ?_
        intro b hb
        have gz := sz_gM ha h1 (fun j hj => Fo_SS (by omega) (NX_to hx (by omega) hb) hj)
        rw [show s.sorted k + l - 1 - l + 1 = s.sorted k by omega] at gz
        rw [e_sizeOf hn, so_bd, gz]
        refine ok_so ⟨⟨by dsimp only; omega, ?_⟩, by dsimp only; omega⟩
        dsimp only
        rw [sm_s (by omega), ind_t (by omega), hq]; omega
      refine ok_ite (fun u => ?_) (fun u => ?_)
      · refine ok_bd (e_letters hn h) (fun a ha => fin a (LtS_small hx ha) (fun j hj => ?_))
        rw [show l - 1 = 0 by omega]; exact Fo_L ha hj
      · have b1 := hx.2.2.1 (s.sorted k) 1 sk.1 sk.2 (by omega) (by omega)
        refine ok_bd (e_nextOf hn h (p := s.sorted k + 1) (l := l - 1) (by omega)) (fun a ha => fin a (NX_small hx ha) (fun j hj => ?_))
        have := Fo_SS (by omega) (NX_to hx (by omega) ha) hj
        rw [show s.sorted k + 1 + (l - 1) - 1 = s.sorted k + l - 1 by omega] at this
        exact this
  · dsimp only
    rw [sm_zero (fun l u v => by rw [ind_f (by omega)]; simp)]; omega
end MI
section KJ
variable {n : Nat} {H : HisS} {V : MvS} {pr : Int} {T : TxtS} {C : ClsS} {K : SwpS} {m : MtS} {s : MsS}
theorem s_minimal (hn : 1000 ≤ n) (h : HR H V pr) (hT : TxI H T) (hC : ClI H C) : Sim (p_X6_minimal n pr H T C K) (p_X7_minimal n V m s) (fun r s => r.1 = s.1 ∧ TxI H r.2.1 ∧ ClI H r.2.2.1) := by
  unfold p_X6_minimal p_X7_minimal
  refine sim_l (e_showC hn h hT hC) ?_
  rintro ⟨T', C', K'⟩ ⟨q1, q2, q3, q4, q5⟩
  refine sim_r (e_layP hn h) ?_
  rintro m' ⟨m1, _⟩
  refine sim_r (e_sort hn m1 s) ?_
  intro s' hs'
  dsimp only at q1 q2 q3 q4 q5 ⊢
  rw [e_minimalAbsent hn q1.2 q3, so_bd]
  exact sim_r (e_mminimal hn m1 hs') (fun r hr => sim_so ⟨hr.symm, q2, q4⟩)
end KJ
