/-! before -/
section BE
variable {n : Nat} {x y : MT} {t u : TxtS} {m : MtS} {P : PadS} {M : MpS}
/-- the l letters at p come before the pattern -/
def BfP (x : MT) (p : Int) (y : MT) (l : Int) : Prop := (l ≤ lc x p y 0 ∧ l < y.n) ∨ (lc x p y 0 < l ∧ lc x p y 0 < y.n ∧ x.L (p + lc x p y 0) < y.L (lc x p y 0))
theorem e_lengthBefore (hn : 1000 ≤ n) (h : TX x t) (k : TX y u) (hy : 1 ≤ y.n) (hr : y.R 0 = y.n) {p : Int} (hp : 0 ≤ p ∧ p < x.n) : Ok (p_X0_lengthBefore n t u p) (fun r => (0 ≤ r ∧ r ≤ x.R p) ∧ ∀ l, 1 ≤ l → l ≤ x.R p → (BfP x p y l ↔ l ≤ r)) := by
  have hx := h.2
  have hy' := k.2
  have nn := hx.1
  have mm := hy'.1
  have l0 := lc_nn hx hy' p 0
  have l1 := lc_le hx hy' p 0
  have rr := R_le hx p
  unfold p_X0_lengthBefore
  rw [e_sharedFrom hn h k (by omega) (by omega), so_bd, e_lengthT k, so_bd, ck_w (by omega), ck_w (by omega)]
  refine ok_ite (fun c => ?_) (fun c => ?_)
  · refine ok_so ⟨by omega, fun l a b => ?_⟩
    unfold BfP
    omega
  · rw [e_lettersFrom h (by unfold InR; omega), so_bd, ck_w (by omega)]
    have all : (x.R p ≤ lc x p y 0 ∨ x.L (p + lc x p y 0) < y.L (lc x p y 0)) → Ok (p_X0_lengthBefore_j54 n t p (lc x p y 0)) (fun r => (0 ≤ r ∧ r ≤ x.R p) ∧ ∀ l, 1 ≤ l → l ≤ x.R p → (BfP x p y l ↔ l ≤ r)) := by
      intro w
      unfold p_X0_lengthBefore_j54 p_X0_lengthBefore_j55
      rw [ck_w (by omega), if_pos rfl, e_lettersFrom h (by unfold InR; omega), so_bd]
      refine ok_so ⟨by omega, fun l a b => ?_⟩
      unfold BfP
      omega
    refine ok_ite (fun d => ?_) (fun d => all (Or.inl (by omega)))
    have a1 := L_in hx (p + lc x p y 0)
    have a2 := L_in hy' (lc x p y 0)
    have ne := lc_ne hx hy' (p := p) (q := 0) d (by omega)
    rw [show (0 : Int) + lc x p y 0 = lc x p y 0 by omega] at ne
    rw [e_letterAt h (by unfold InR; omega), so_bd, e_letterAt k (by unfold InR; omega), so_bd, ck_w (by omega), ck_w (by omega)]
    refine ok_ite (fun g => ?_) (fun g => all (Or.inr (by omega)))
    unfold p_X0_lengthBefore_j55
    rw [ck_w (by omega), if_neg (by omega)]
    refine ok_so ⟨by omega, fun l a b => ?_⟩
    unfold BfP
    omega
theorem e_mcomesBefore (hn : 1000 ≤ n) (h : MX 0 x m) (hp : PR P M) (hP : PatOk P) {p l : Int} (hq : 0 ≤ p ∧ p < x.n) (hl : 1 ≤ l ∧ l ≤ x.R p) : (BfP x p (pm P) l → p_X7_comesBefore n M m p l = some 1) ∧ (¬ BfP x p (pm P) l → p_X7_comesBefore n M m p l = some 0) := by
  have hx := h.1
  have hy := pm_ok hP
  have nn := hx.1
  have hs : M.padMany = P.size := hp.1
  have hp1 := hP.1
  have l0 := lc_nn hx hy p 0
  have l1 := lc_le hx hy p 0
  have rr := R_le hx p
  have bp := hx.2.1 p hq.1 hq.2
  obtain ⟨pn, pr1, pr2⟩ := pm_r hP
  have this : Ok (lp (p_X7_comesBefore_b2 n M m p l) n 0) (fun r => r = min (lc x p (pm P) 0) l) := by
    refine ok_lpJ (fun z => 0 ≤ z ∧ z ≤ min (lc x p (pm P) 0) l) (fun z => l - z) ?_ n _ ⟨by omega, by omega⟩ (by omega)
    rintro z ⟨z0, z1⟩
    refine ⟨by omega, ?_⟩
    unfold p_X7_comesBefore_b2
    rw [hs, ck_w (by omega), ck_w (by omega)]
    refine ok_ite (fun d => ?_) (fun d => ok_so (show z = _ by omega))
    rw [ck_w (by omega)]
    refine ok_ite (fun d2 => ?_) (fun d2 => ok_so (show z = _ by omega))
    have ch := hp.2.2 z z0 d2
    have pa := pm_at (P := P) (i := z) ⟨z0, d2⟩
    have pc := hP.2 z z0 d2
    have lx := L_in hx (p + z)
    rw [e_mletterAt h (by omega), so_bd, ix_of (by omega), ck_w (by omega), ck_w (by omega), ch.1]
    refine ok_ite (fun g => ?_) (fun g => ?_)
    · refine ok_so ⟨⟨by omega, ?_⟩, by dsimp only; omega⟩
      have : z + 1 ≤ lc x p (pm P) 0 := by
        refine (lc_iff hx hy (by omega)).mpr ⟨by omega, by omega, fun i a b => ?_⟩
        by_cases w : i = z
        · rw [w, show (0 : Int) + z = z by omega, pa.1]; exact g
        · exact ((lc_iff hx hy (l := z) z0).mp (by omega)).2.2 i a (by omega)
      omega
    · refine ok_so (show z = _ from ?_)
      have : ¬ z + 1 ≤ lc x p (pm P) 0 := fun w => g (by
        have := ((lc_iff hx hy (l := z + 1) (by omega)).mp w).2.2 z z0 (by omega)
        rw [show (0 : Int) + z = z by omega, pa.1] at this
        exact this)
      omega
  unfold p_X7_comesBefore
  rw [ok_eq this, so_bd, ck_w (by omega), ck_w (by omega), hs]
  by_cases c : min (lc x p (pm P) 0) l = l
  · rw [if_pos c]
    unfold p_X7_comesBefore_j53
    rw [ck_w (by omega), ck_w (by omega), if_pos c, hs, ck_w (by omega)]
    constructor
    · intro w
      rw [if_pos (by unfold BfP at w; omega)]
    · intro w
      rw [if_neg (by unfold BfP at w; omega)]
  · rw [if_neg c, ck_w (by omega)]
    by_cases d : min (lc x p (pm P) 0) l = P.size
    · rw [if_pos d]
      unfold p_X7_comesBefore_j53
      rw [ck_w (by omega), ck_w (by omega), if_neg c]
      exact ⟨fun w => by unfold BfP at w; omega, fun _ => rfl⟩
    · have e : min (lc x p (pm P) 0) l = lc x p (pm P) 0 := by omega
      rw [if_neg d, e]
      have ch := hp.2.2 (lc x p (pm P) 0) l0 (by omega)
      have pa := pm_at (P := P) (i := lc x p (pm P) 0) ⟨l0, by omega⟩
      have pc := hP.2 (lc x p (pm P) 0) l0 (by omega)
      have lx := L_in hx (p + lc x p (pm P) 0)
      rw [e_mletterAt h (by omega), so_bd, ix_of (by omega), ck_w (by omega), ck_w (by omega), ch.1, ← pa.1]
      constructor
      · intro w
        rw [if_pos (by unfold BfP at w; omega)]
      · intro w
        rw [if_neg (by unfold BfP at w; omega)]
noncomputable def gB (x y : MT) (p l : Int) : Int := ind (BfP x p y l)
theorem gB_inv (hx : MOk x) (hy : MOk y) : Inv x (gB x y) := by
  intro p q l hl s
  have key : ∀ p q, Sm x p x q l → BfP x p y l → BfP x q y l := by
    intro p q s w
    have l0 := lc_nn hx hy p 0
    have l1 := lc_le hx hy p 0
    have sp := lc_Sm hx hy p 0
    unfold BfP at w ⊢
    rcases w with w | w
    · have : l ≤ lc x q y 0 := (lc_iff hx hy (by omega)).mpr (Sm_tr (Sm_sy s) (Sm_le sp w.1))
      exact Or.inl ⟨this, w.2⟩
    · have e : lc x q y 0 = lc x p y 0 := by
        refine lc_un hx hy l0 (Sm_tr (Sm_sy (Sm_le s (by omega))) sp) (Or.inr (Or.inr ?_))
        rw [← s.2.2 _ l0 w.1, show (0 : Int) + lc x p y 0 = lc x p y 0 by omega]
        omega
      rw [e, ← s.2.2 _ l0 w.1]
      exact Or.inr w
  exact ind_i ⟨key p q s, key q p (Sm_sy s)⟩
theorem e_factorsBefore (hn : 1000 ≤ n) (h : TX x t) (k : TX y u) (hy : 1 ≤ y.n) (hr : y.R 0 = y.n) {B : BegS} (hB : BegOk x B) : p_X0_factorsBefore n B t u = some (FS x (gB x y)) := by
  have hx := h.2
  have nn := hx.1
  obtain ⟨b1, b2⟩ := hB
  rw [← FS_rank hx b2 (gB_inv hx k.2)]
  unfold p_X0_factorsBefore
  have this : Ok (lp (p_X0_factorsBefore_b5 n B t u) n (0, 0)) (fun r => r = sm (fun k => sm (fun l => ind (B.shared k < l ∧ l ≤ x.R (B.starts k)) * gB x y (B.starts k) l) 61) x.n) := by
    refine ok_lpJ (fun z => (0 ≤ z.2 ∧ z.2 ≤ x.n) ∧ z.1 = sm (fun k => sm (fun l => ind (B.shared k < l ∧ l ≤ x.R (B.starts k)) * gB x y (B.starts k) l) 61) z.2) (fun z => x.n - z.2) ?_ n _ ⟨by dsimp only; omega, by dsimp only; rw [sm_0 (Int.le_refl 0)]⟩ (by dsimp only; omega)
    rintro ⟨r, i⟩ ⟨hi, hr'⟩
    dsimp only at hi hr' ⊢
    refine ⟨by omega, ?_⟩
    unfold p_X0_factorsBefore_b5
    dsimp only
    rw [b1, ck_w (by omega), ck_w (by omega)]
    refine ok_ite (fun d => ?_) (fun d => ok_so (by rw [hr', show i = x.n by omega]; rfl))
    have nk := near_nn hx b2 ⟨hi.1, d⟩
    have sk := b2.1.2 i hi.1 d
    have rr := R_le hx (B.starts i)
    rw [ix_of (by omega)]
    refine ok_bd (e_lengthBefore hn h k hy hr sk) ?_
    rintro q ⟨q1, q2⟩
    rw [ck_w (by omega)]
    refine ok_so ⟨⟨by dsimp only; omega, ?_⟩, by dsimp only; omega⟩
    dsimp only
    rw [sm_s hi.1, hr']
    congr 1
    have e : sm (fun l => ind (B.shared i < l ∧ l ≤ x.R (B.starts i)) * gB x y (B.starts i) l) 61 = sm (fun l => ind (B.shared i < l ∧ l ≤ q)) 61 := by
      refine sm_cg (fun l _ _ => ?_)
      unfold gB
      rw [← ind_and]
      refine ind_i ⟨fun w => ⟨w.1.1, (q2 l (by omega) w.1.2).mp w.2⟩, fun w => ⟨by omega, (q2 l (by omega) (by omega)).mpr w.2⟩⟩
    rw [e]
    by_cases w : B.shared i ≤ q
    · rw [sm_between nk.1 w (by omega)]; omega
    · rw [sm_zero (fun l _ _ => ind_f (by omega))]; omega
  rw [ok_eq this, so_bd]
theorem e_mbefore (hn : 1000 ≤ n) (h : MX 0 x m) (hp : PR P M) (hP : PatOk P) {s : MsS} (hs : SrtOk x s.sorted s.near) : Ok (lp (p_X7_before_b22 n M m s) n (0, 0)) (fun r => r = FS x (gB x (pm P))) := by
  have hx := h.1
  have nn := hx.1
  have hm : m.many 0 = x.n := h.2.1
  rw [← FS_rank hx hs (gB_inv hx (pm_ok hP))]
  refine ok_lpJ (fun z => (0 ≤ z.2 ∧ z.2 ≤ x.n) ∧ z.1 = sm (fun k => sm (fun l => ind (s.near k < l ∧ l ≤ x.R (s.sorted k)) * gB x (pm P) (s.sorted k) l) 61) z.2) (fun z => x.n - z.2) ?_ n _ ⟨by dsimp only; omega, by dsimp only; rw [sm_0 (Int.le_refl 0)]⟩ (by dsimp only; omega)
  rintro ⟨r, k⟩ ⟨hk, hr⟩
  dsimp only at hk hr ⊢
  refine ⟨by omega, ?_⟩
  unfold p_X7_before_b22
  dsimp only
  rw [hm, ck_w (by omega), ck_w (by omega)]
  refine ok_ite (fun d => ?_) (fun d => ok_so (by rw [hr, show k = x.n by omega]; rfl))
  have nk := near_nn hx hs ⟨hk.1, d⟩
  have sk := hs.1.2 k hk.1 d
  have rr := R_le hx (s.sorted k)
  rw [ix_of (by omega)]
  refine ok_bd (P := fun q => q = r + sm (fun l => ind (s.near k < l ∧ l ≤ x.R (s.sorted k)) * gB x (pm P) (s.sorted k) l) 61) ?_ (fun q hq => ok_so ⟨⟨by dsimp only; omega, by dsimp only; rw [sm_s hk.1, hq, hr]⟩, by dsimp only; omega⟩)
  refine ok_lpJ (fun z => (s.near k < z.2 ∧ z.2 ≤ x.R (s.sorted k) + 1) ∧ z.1 = r + sm (fun l => ind (s.near k < l ∧ l ≤ x.R (s.sorted k)) * gB x (pm P) (s.sorted k) l) z.2) (fun z => x.R (s.sorted k) + 1 - z.2) ?_ n _ ⟨by dsimp only; omega, ?_⟩ (by dsimp only; omega)
  · rintro ⟨q, l⟩ ⟨hl, hq⟩
    dsimp only at hl hq ⊢
    refine ⟨by omega, ?_⟩
    unfold p_X7_before_b41
    dsimp only
    rw [ix_of (by omega), e_rest (Or.inl rfl) h sk, so_bd, ck_w (by omega), ck_w (by omega)]
    refine ok_ite (fun g => ?_) (fun g => ?_)
    · refine ok_so ?_
      rw [hq, sm_tail (a := l) (b := 61) (by omega) (fun p u v w => by rw [ind_f (by omega)]; simp)]; rfl
    · have stp : ∀ v : Int, gB x (pm P) (s.sorted k) l = v → q + v = r + sm (fun l => ind (s.near k < l ∧ l ≤ x.R (s.sorted k)) * gB x (pm P) (s.sorted k) l) (l + 1) := by
        intro v hv
        rw [sm_s (by omega), hv, ind_t (by omega), hq]; omega
      obtain ⟨q1, q2⟩ := e_mcomesBefore hn h hp hP sk (l := l) (by omega)
      by_cases w : BfP x (s.sorted k) (pm P) l
      · rw [q1 w, so_bd, ck_w (by omega), if_neg (by omega)]
        exact ok_so ⟨⟨by dsimp only; omega, stp 1 (ind_t w)⟩, by dsimp only; omega⟩
      · rw [q2 w, so_bd, ck_w (by omega), if_pos rfl]
        exact ok_so ⟨⟨by dsimp only; omega, stp 0 (ind_f w)⟩, by dsimp only; omega⟩
  · dsimp only
    rw [sm_zero (fun l u v => by rw [ind_f (by omega)]; simp)]; omega
end BE
section KK
variable {n : Nat} {H : HisS} {V : MvS} {pr : Int} {T Q : TxtS} {B : BegS} {m : MtS} {s : MsS} {P : PadS} {M : MpS}
theorem e_begP (hn : 1000 ≤ n) (h : HR H V pr) (t1 : TX (nb (ct H pr)) T) (t2 : T.version = pr) (hB : BgI H B) : Ok (p_X0_refresh n B T) (fun r => BegOk (nb (ct H pr)) r ∧ BgI H r) := by
  have hw : 0 ≤ pr ∧ pr < H.size := h.2.2.2
  have hH := h.1.1
  have c1 := hB.1
  refine ok_mono (e_begR hn t1 (B := B) (by unfold InR; omega) (by unfold InR; omega) (fun q => ?_)) ?_
  · have := hB.2 (by omega)
    rw [q, t2] at this; exact this
  · rintro B' ⟨q1, q2⟩
    exact ⟨q1, by omega, fun _ => by rw [q2, t2]; exact q1⟩
theorem s_before (hn : 1000 ≤ n) (h : HR H V pr) (hP : PR P M) (hT : TxI H T) (hB : BgI H B) : Sim (p_X6_before n pr H P T B Q) (p_X7_before n V M m s) (fun r s => r.1 = s.1 ∧ TxI H r.2.1 ∧ BgI H r.2.2.1) := by
  unfold p_X6_before p_X7_before
  rcases s_read hn (Q := Q) hP with ⟨Q', e1, e2, hp, e4, e5⟩ | ⟨e1, e2⟩
  · rw [e1, e2, so_bd, so_bd]
    simp (disch := omega) only [ck_w, if_neg]
    obtain ⟨pn, pr1, pr2⟩ := pm_r hp
    have hp1 := hp.1
    refine sim_l (e_show hn h hT) ?_
    rintro T' ⟨t1, t2, t3, _⟩
    refine sim_r (e_layP hn h) ?_
    rintro m' ⟨m1, _⟩
    refine sim_r (e_sort hn m1 s) ?_
    intro s' hs'
    refine sim_l (e_begP hn h t1 t2 hB) ?_
    rintro B' ⟨b1, b2⟩
    rw [e_factorsBefore hn t1 e4 (by omega) pr1 b1, so_bd]
    exact sim_r (e_mbefore hn m1 hP hp hs') (fun r hr => sim_so ⟨hr.symm, t3, b2⟩)
  · rw [e1, e2, so_bd, so_bd, ck_w (by omega), if_pos rfl, ck_w (by omega), if_pos rfl]
    exact sim_so ⟨rfl, hT, hB⟩
end KK
