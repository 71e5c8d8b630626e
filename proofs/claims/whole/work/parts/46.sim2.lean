/-! write, spell, step -/
section W1
variable {n : Nat} {x : MT} {t : TxtS} {m : MtS}
theorem s_write (hn : 1000 ≤ n) (h : TX x t) (k : MX 0 x m) {P : PadS} {M : MpS} {p q l : Int} (hl : 0 ≤ l ∧ l ≤ 60) (s : Sm x p x q l) (hp : 0 ≤ p ∧ p < x.n) (hq : 0 ≤ q ∧ q < x.n) : Sim (p_X6_write n P t p l) (p_X7_write n M m q l) (fun r s => r.1 = l ∧ s.1 = l ∧ PR r.2 s.2) := by
  have hx := h.2
  have nn := hx.1
  have bp := hx.2.1 p hp.1 hp.2
  have bq := hx.2.1 q hq.1 hq.2
  have s1 := s.1
  have s2 := s.2.1
  unfold p_X6_write p_X3_write p_X3_clear p_X7_write
  refine sim_ok (P := fun r => r.1 = l ∧ r.2.size = l ∧ ∀ i, 0 ≤ i → i < l → r.2.characters i = 97 + x.L (p + i)) (R := fun r => r.1 = l ∧ r.2.padMany = l ∧ ∀ i, 0 ≤ i → i < l → r.2.pad i = 97 + x.L (q + i)) ?_ ?_ ?_
  · rw [so_bd]
    have : Ok (lp (p_X3_write_b7 n t p l) n (0, (P.characters, 0))) (fun r => r.size = l ∧ ∀ i, 0 ≤ i → i < l → r.characters i = 97 + x.L (p + i)) := by
      refine ok_lpJ (fun z => (0 ≤ z.1 ∧ z.1 ≤ l) ∧ z.2.size = z.1 ∧ ∀ i, 0 ≤ i → i < z.1 → z.2.characters i = 97 + x.L (p + i)) (fun z => l - z.1) ?_ n _ ⟨by dsimp only; omega, rfl, fun i a b => by dsimp only at b; omega⟩ (by dsimp only; omega)
      rintro ⟨i, Q⟩ ⟨hi, h1, h2⟩
      dsimp only at hi h1 h2 ⊢
      refine ⟨by omega, ?_⟩
      unfold p_X3_write_b7 p_X3_add
      dsimp only
      rw [ck_w (by omega), ck_w (by omega)]
      refine ok_ite (fun d => ?_) (fun d => ok_so ⟨by omega, fun j a b => h2 j a (by omega)⟩)
      rw [e_letterAt h (by unfold InR; omega), so_bd, ck_w (by omega), if_pos (by omega), ix_of (by omega), so_bd]
      refine ok_so ⟨⟨by dsimp only; omega, ?_, fun j a b => ?_⟩, by dsimp only; omega⟩
      · show Q.size + 1 = i + 1; omega
      · show up _ _ _ j = _
        dsimp only at b
        by_cases w : j = i
        · rw [w, h1, up_s]
        · rw [up_n _ _ (by omega)]; exact h2 j a (by omega)
    obtain ⟨r, e1, e2⟩ := this
    rw [e1, so_bd, so_bd]
    exact ok_so ⟨rfl, e2⟩
  · have : Ok (lp (p_X7_write_b2 n m q l) n (0, M.pad)) (fun r => ∀ i, 0 ≤ i → i < l → r i = 97 + x.L (q + i)) := by
      refine ok_lpJ (fun z => (0 ≤ z.1 ∧ z.1 ≤ l) ∧ ∀ i, 0 ≤ i → i < z.1 → z.2 i = 97 + x.L (q + i)) (fun z => l - z.1) ?_ n _ ⟨by dsimp only; omega, fun i a b => by dsimp only at b; omega⟩ (by dsimp only; omega)
      rintro ⟨i, Q⟩ ⟨hi, h2⟩
      dsimp only at hi h2 ⊢
      refine ⟨by omega, ?_⟩
      unfold p_X7_write_b2
      dsimp only
      rw [ck_w (by omega), ck_w (by omega)]
      refine ok_ite (fun d => ?_) (fun d => ok_so (fun j a b => h2 j a (by omega)))
      rw [e_mletterAt k (by omega), so_bd, ix_of (by omega)]
      refine ok_so ⟨⟨by dsimp only; omega, fun j a b => ?_⟩, by dsimp only; omega⟩
      dsimp only at b ⊢
      by_cases w : j = i
      · rw [w, up_s]
      · rw [up_n _ _ w]; exact h2 j a (by omega)
    obtain ⟨r, e1, e2⟩ := this
    rw [e1, so_bd]
    exact ok_so ⟨rfl, rfl, e2⟩
  · rintro ⟨r1, P'⟩ ⟨s1', M'⟩ ⟨a1, a2, a3⟩ ⟨b1, b2, b3⟩
    dsimp only at a1 a2 a3 b1 b2 b3 ⊢
    refine ⟨a1, b1, by omega, by omega, fun i u v => ?_⟩
    have e1 := a3 i u (by omega)
    have e2 := b3 i u (by omega)
    have e3 := s.2.2 i u (by omega)
    have := L_in hx (p + i)
    rw [e1, e2, e3]
    rw [e3] at this
    omega
end W1
section KF
variable {n : Nat} {H : HisS} {V : MvS} {pr : Int} {T : TxtS} {C : ClsS} {K : SwpS} {m : MtS} {c : McS} {P : PadS} {M : MpS}
theorem s_spell (hn : 1000 ≤ n) (h : HR H V pr) (hP : PR P M) (hT : TxI H T) (hC : ClI H C) {v1 : Int} (h1 : InR v1) : Sim (p_X6_spell n pr H P T C K v1) (p_X7_spell n V M m c v1) (fun r s => r.1 = s.1 ∧ PR r.2.1 s.2.1 ∧ TxI H r.2.2.1 ∧ ClI H r.2.2.2.1) := by
  unfold p_X6_spell p_X7_spell
  refine sim_l (e_showC hn h hT hC) ?_
  rintro ⟨T', C', K'⟩ ⟨q1, q2, q3, q4, q5⟩
  refine sim_r (e_isClass hn h h1) ?_
  rintro ⟨b, m', c'⟩ ⟨w1, w2, w3⟩
  dsimp only at q1 q2 q3 q4 q5 w1 w2 w3 ⊢
  have hx := q1.2
  obtain ⟨_, _, t3, t4⟩ := Two_of hx q3 w3
  have most := Cls_most hx q3
  rw [e_hasC q3 most h1, so_bd, w1, t3]
  by_cases g : 0 ≤ v1 ∧ v1 < c'.classes
  · rw [if_pos g]
    obtain ⟨a1, a2, a3, a4, a5, a6, a7⟩ := e_parts1 q3 most (v := v1) (by omega)
    obtain ⟨u1, u2, u3⟩ := t4 v1 g.1 g.2
    have rw1 := (q3.1.2.1 v1 g.1 (by omega)).1
    have cc := rw1.1.1
    have cl := rw1.1.2.1
    have kk := (kn_ok hx (C'.firstEnds v1)).1
    have pp := P_in hx (C'.firstEnds v1)
    have pr' := P_R hx cc (l := C'.longest v1) (by omega)
    unfold p_X1_longestStart p_X7_firstOf
    simp (disch := omega) only [ck_w, if_neg, a1, a7, so_bd, ix_of]
    rw [← u1, ← u3]
    refine sim_bd (s_write hn q1 w2 (P := P) (M := M) (p := C'.firstEnds v1 - C'.longest v1 + 1) (q := C'.firstEnds v1 - C'.longest v1 + 1) (l := C'.longest v1) (by omega) (Sm_rf pr'.2.2.1) pr'.1 pr'.1) ?_
    rintro r s ⟨z1, z2, z3⟩
    exact sim_so ⟨z1.trans z2.symm, z3, q2, q4⟩
  · rw [if_neg g, ck_w (by omega), if_pos rfl, ck_w (by omega), if_pos rfl]
    exact sim_so ⟨rfl, hP, q2, q4⟩
end KF
section ST
variable {n : Nat} {x : MT} {t : TxtS} {m : MtS}
/-- the letters before two places -/
theorem e_sameBefore (hn : 1000 ≤ n) (h : TX x t) {a b l : Int} (ha : 0 ≤ a ∧ a < x.n) (hb : 0 ≤ b ∧ b ≤ x.n) (hl : 0 ≤ l ∧ l ≤ 60) : ((∀ i, 1 ≤ i → i ≤ l → x.L (a - i) = x.L (b - i)) → p_X5_sameBefore n t a b l = some 1) ∧ (¬ (∀ i, 1 ≤ i → i ≤ l → x.L (a - i) = x.L (b - i)) → p_X5_sameBefore n t a b l = some 0) := by
  have hx := h.2
  have nn := hx.1
  have : Ok (lp (p_X5_sameBefore_b3 n t a b l) n 1) (fun r => (r = .inr () ∧ ∀ i, 1 ≤ i → i ≤ l → x.L (a - i) = x.L (b - i)) ∨ (r = .inl 0 ∧ ¬ ∀ i, 1 ≤ i → i ≤ l → x.L (a - i) = x.L (b - i))) := by
    refine ok_lpJ (fun z => (1 ≤ z ∧ z ≤ l + 1) ∧ ∀ i, 1 ≤ i → i < z → x.L (a - i) = x.L (b - i)) (fun z => l + 1 - z) ?_ n _ ⟨by omega, fun i a b => by omega⟩ (by omega)
    rintro z ⟨hz, hs⟩
    refine ⟨by omega, ?_⟩
    unfold p_X5_sameBefore_b3
    rw [ck_w (by omega), ck_w (by omega)]
    refine ok_ite (fun d => ok_so (Or.inl ⟨rfl, fun i u v => hs i u (by omega)⟩)) (fun d => ?_)
    have l1 := L_in hx (a - z)
    have l2 := L_in hx (b - z)
    rw [e_letterAt h (by unfold InR; omega), so_bd, e_letterAt h (by unfold InR; omega), so_bd, ck_w (by omega), ck_w (by omega)]
    refine ok_ite (fun g => ?_) (fun g => ok_so (Or.inr ⟨rfl, fun q => g (q z hz.1 (by omega))⟩))
    refine ok_so ⟨⟨by omega, fun i u v => ?_⟩, by dsimp only; omega⟩
    by_cases w : i = z
    · rw [w]; exact g
    · exact hs i u (by omega)
  obtain ⟨r, e1, e2⟩ := this
  unfold p_X5_sameBefore
  rw [e1, so_bd]
  rcases e2 with ⟨rfl, q⟩ | ⟨rfl, q⟩
  · exact ⟨fun _ => rfl, fun c => absurd q c⟩
  · exact ⟨fun c => absurd c q, fun _ => rfl⟩
/-- a letter g follows the stretch of l letters that ends at e: at z -/
def Nxt (x : MT) (e l g z : Int) : Prop := (0 ≤ z ∧ z < x.n) ∧ x.L z = g ∧ l ≤ x.P z ∧ (0 < l → l ≤ cs x (z - 1) x e)
theorem Nxt_iff (hx : MOk x) {e l g z : Int} (he : 0 < l → 0 ≤ e ∧ e < x.n) (hle : 0 < l → l ≤ x.P e + 1) (hl : 0 ≤ l) (hz : 0 ≤ z ∧ z < x.n) (h1 : x.L z = g) (h2 : l ≤ x.P z) : Nxt x e l g z ↔ ∀ i, 1 ≤ i → i ≤ l → x.L (z - i) = x.L (e + 1 - i) := by
  have bz := hx.2.1 z hz.1 hz.2
  have pz := hx.2.2.2.1 z 1 hz.1 hz.2 (by omega)
  constructor
  · rintro ⟨_, _, _, q⟩ i u v
    have := ((cs_iff0 hx hx (p := z - 1) (q := e) (l := l) hl).mp (q (by omega))).2.2 (i - 1) (by omega) (by omega)
    rw [show z - 1 - (i - 1) = z - i by omega, show e - (i - 1) = e + 1 - i by omega] at this
    exact this
  · intro q
    refine ⟨hz, h1, h2, fun l0 => (cs_iff0 hx hx (p := z - 1) (q := e) (l := l) hl).mpr ⟨?_, hle l0, fun i u v => ?_⟩⟩
    · have := pz (by omega); omega
    · have := q (i + 1) (by omega) (by omega)
      rw [show z - 1 - i = z - (i + 1) by omega, show e - i = e + 1 - (i + 1) by omega]; exact this
theorem e_classAfter (hn : 1000 ≤ n) (h : TX x t) {C : ClsS} {e l g : Int} (hg : 0 ≤ g ∧ g ≤ 7) (he : 0 < l → 0 ≤ e ∧ e < x.n) (he2 : 0 ≤ e + 1 ∧ e + 1 ≤ x.n ∨ l = 0 ∧ e = 0) (hle : 0 < l → l ≤ x.P e + 1) (hl : 0 ≤ l ∧ l ≤ 60) : Ok (lp (p_X1_classAfter_b19 n C t g l (e + 1)) n 0) (fun r => (∃ z, Nxt x e l g z ∧ (∀ y, 0 ≤ y → y < z → ¬ Nxt x e l g y) ∧ r = .inl (C.classOf z (l + 1))) ∨ (r = .inr () ∧ ∀ y, ¬ Nxt x e l g y)) := by
  have hx := h.2
  have nn := hx.1
  refine ok_lpJ (fun z => (0 ≤ z ∧ z ≤ x.n) ∧ ∀ y, 0 ≤ y → y < z → ¬ Nxt x e l g y) (fun z => x.n - z) ?_ n _ ⟨by omega, fun i a b => by omega⟩ (by omega)
  rintro z ⟨hz, hs⟩
  refine ⟨by omega, ?_⟩
  unfold p_X1_classAfter_b19
  rw [e_lengthT h, so_bd, ck_w (by omega), ck_w (by omega)]
  refine ok_ite (fun d => ?_) (fun d => ok_so (Or.inr ⟨rfl, fun y w => hs y w.1.1 (by have := w.1.2; omega) w⟩))
  have l1 := L_in hx z
  have pz := P_in hx z
  have bz := hx.2.1 z hz.1 d
  have nxt : ¬ Nxt x e l g z → Ok (some (Sum.inl (z + 1))) (LI (fun z => (0 ≤ z ∧ z ≤ x.n) ∧ ∀ y, 0 ≤ y → y < z → ¬ Nxt x e l g y) (fun z => x.n - z) (x.n - z) (fun r : Int ⊕ Unit => (∃ z, Nxt x e l g z ∧ (∀ y, 0 ≤ y → y < z → ¬ Nxt x e l g y) ∧ r = .inl (C.classOf z (l + 1))) ∨ (r = .inr () ∧ ∀ y, ¬ Nxt x e l g y))) := by
    intro w
    refine ok_so ⟨⟨by omega, fun j a b => ?_⟩, by dsimp only; omega⟩
    by_cases q : j = z
    · rw [q]; exact w
    · exact hs j a (by omega)
  rw [e_letterAt h (by unfold InR; omega), so_bd, ck_w (by omega), ck_w (by omega)]
  refine ok_ite (fun w1 => ?_) (fun w1 => ?_)
  · rw [e_placeAt h (by unfold InR; omega), so_bd, ck_w (by omega), ck_w (by omega)]
    refine ok_ite (fun w2 => ?_) (fun w2 => ?_)
    · unfold p_X1_classAfter_j53 p_X1_classAfter_j54
      rw [ck_w (by omega), if_pos rfl]
      exact nxt (fun q => by have := q.2.2.1; omega)
    · have ni := Nxt_iff hx he hle hl.1 ⟨hz.1, d⟩ w1 (by omega)
      unfold p_X1_classAfter_j54
      rw [ck_w (by omega), if_neg (by omega)]
      have eb : 0 ≤ e + 1 ∧ e + 1 ≤ x.n := by omega
      obtain ⟨s1, s2⟩ := e_sameBefore hn h (a := z) (b := e + 1) (l := l) ⟨hz.1, d⟩ eb hl
      by_cases q : ∀ i, 1 ≤ i → i ≤ l → x.L (z - i) = x.L (e + 1 - i)
      · rw [s1 q, so_bd, ck_w (by omega), if_neg (by omega), e_classAt (by omega) (by omega), so_bd]
        exact ok_so (Or.inl ⟨z, ni.mpr q, hs, rfl⟩)
      · rw [s2 q, so_bd, ck_w (by omega), if_pos rfl]
        exact nxt (fun w => q (ni.mp w))
  · unfold p_X1_classAfter_j53 p_X1_classAfter_j54
    rw [ck_w (by omega), if_pos rfl]
    exact nxt (fun q => w1 q.2.1)
/-- the reference's search, by the place of the beginning -/
theorem e_mstep (hn : 1000 ≤ n) (h : MX 0 x m) {c : McS} (hc : McOk x c) {v e l g : Int} (hg : 0 ≤ g ∧ g ≤ 7) (hv : (v = -1 ∧ l = 0) ∨ ((0 ≤ v ∧ v < c.classes) ∧ e = c.classLast v ∧ l = c.classLong v)) : Ok (lp (p_X7_step_b47 n m c v g l) n 0) (fun r => (∃ z k, Nxt x e l g z ∧ (∀ y, 0 ≤ y → y < z → ¬ Nxt x e l g y) ∧ r = .inl (k, m, c) ∧ Cl x c.classes c.classLast c.classShort c.classLong z (l + 1) k) ∨ (r = .inr () ∧ ∀ y, ¬ Nxt x e l g y)) := by
  have hx := h.1
  have nn := hx.1
  have hm : m.many 0 = x.n := h.2.1
  have most := hc.2.2
  have hl : 0 ≤ l ∧ l ≤ 60 ∧ (0 < l → (0 ≤ e ∧ e < x.n) ∧ l ≤ x.P e + 1) := by
    rcases hv with w | ⟨w1, w2, w3⟩
    · omega
    · have c1 := (hc.1.2.1 v w1.1 w1.2).1
      have k1 := (kn_ok hx (c.classLast v)).1
      have c11 := c1.1
      have c12 := c1.2.1
      have p1 := P_in hx (c.classLast v)
      rw [w2, w3]
      omega
  have Nx : ∀ z, 0 ≤ z → z < x.n → (Nxt x e l g (z + l) ↔ (l < x.R z ∧ x.L (z + l) = g ∧ (0 < l → Sm x (e - l + 1) x z l))) := by
    intro z z0 z1
    constructor
    · rintro ⟨n1, n2, n3, n4⟩
      have bz := hx.2.2.2.1 (z + l) l n1.1 n1.2 hl.1 n3
      rw [show z + l - l = z by omega] at bz
      have b2 := hx.2.1 (z + l) n1.1 n1.2
      refine ⟨by omega, n2, fun l0 => ?_⟩
      have s := (cs_Sm hx (d := z + l - 1) (e := e) (l := l) (by omega) (hl.2.2 l0).1 (by omega)).mp (n4 l0)
      rw [show z + l - 1 - l + 1 = z by omega] at s
      exact Sm_sy s
    · rintro ⟨r1, r2, r3⟩
      have bz := hx.2.2.1 z l z0 z1 hl.1 r1
      have b2 := hx.2.1 z z0 z1
      refine ⟨by omega, r2, by omega, fun l0 => ?_⟩
      refine (cs_Sm hx (d := z + l - 1) (e := e) (l := l) (by omega) (hl.2.2 l0).1 (by omega)).mpr ?_
      rw [show z + l - 1 - l + 1 = z by omega]
      exact Sm_sy (r3 l0)
  have Nd : ∀ y, Nxt x e l g y → 0 ≤ y - l ∧ y - l < x.n := by
    rintro y ⟨n1, n2, n3, n4⟩
    have := hx.2.1 y n1.1 n1.2
    omega
  refine ok_lpJ (fun z => (0 ≤ z ∧ z ≤ x.n) ∧ ∀ y, 0 ≤ y → y < z → ¬ Nxt x e l g (y + l)) (fun z => x.n - z) ?_ n _ ⟨by omega, fun i a b => by omega⟩ (by omega)
  rintro z ⟨hz, hs⟩
  refine ⟨by omega, ?_⟩
  unfold p_X7_step_b47
  rw [hm, ck_w (by omega), ck_w (by omega)]
  refine ok_ite (fun d => ?_) (fun d => ok_so (Or.inr ⟨rfl, fun y w => hs (y - l) (Nd y w).1 (by have := (Nd y w).2; omega) (by rw [show y - l + l = y by omega]; exact w)⟩))
  have rz := R_le hx z
  have rz0 := R_nn hx z
  have bz := hx.2.1 z hz.1 d
  have nxt : ¬ Nxt x e l g (z + l) → Ok (p_X7_step_j105 n m c l z) (LI (fun z => (0 ≤ z ∧ z ≤ x.n) ∧ ∀ y, 0 ≤ y → y < z → ¬ Nxt x e l g (y + l)) (fun z => x.n - z) (x.n - z) (fun r => (∃ z k, Nxt x e l g z ∧ (∀ y, 0 ≤ y → y < z → ¬ Nxt x e l g y) ∧ r = .inl (k, m, c) ∧ Cl x c.classes c.classLast c.classShort c.classLong z (l + 1) k) ∨ (r = .inr () ∧ ∀ y, ¬ Nxt x e l g y))) := by
    intro w
    unfold p_X7_step_j105 p_X7_step_j106
    rw [ck_w (by omega), if_pos rfl]
    refine ok_so ⟨⟨by omega, fun j a b => ?_⟩, by dsimp only; omega⟩
    by_cases q : j = z
    · rw [q]; exact w
    · exact hs j a (by omega)
  have hit : Nxt x e l g (z + l) → Ok (p_X7_step_j101 n m c l z) (LI (fun z => (0 ≤ z ∧ z ≤ x.n) ∧ ∀ y, 0 ≤ y → y < z → ¬ Nxt x e l g (y + l)) (fun z => x.n - z) (x.n - z) (fun r => (∃ z k, Nxt x e l g z ∧ (∀ y, 0 ≤ y → y < z → ¬ Nxt x e l g y) ∧ r = .inl (k, m, c) ∧ Cl x c.classes c.classLast c.classShort c.classLong z (l + 1) k) ∨ (r = .inr () ∧ ∀ y, ¬ Nxt x e l g y))) := by
    intro w
    have r1 := ((Nx z hz.1 d).mp w).1
    unfold p_X7_step_j101 p_X7_step_j106
    rw [ck_w (by omega), if_neg (by omega)]
    refine ok_bd (e_mclassAt hn h hc (p := z) (l := l + 1) ⟨by omega, by omega⟩) (fun k hk => ok_so (Or.inl ⟨z + l, k, w, fun y a b q => ?_, rfl, ?_⟩))
    · exact hs (y - l) (Nd y q).1 (by omega) (by rw [show y - l + l = y by omega]; exact q)
    · rw [show z + (l + 1) - 1 = z + l by omega] at hk; exact hk
  rw [e_rest (Or.inl rfl) h ⟨hz.1, d⟩, so_bd, ck_w (by omega), ck_w (by omega)]
  refine ok_ite (fun w1 => ?_) (fun w1 => nxt (fun q => w1 ((Nx z hz.1 d).mp q).1))
  have ll := L_in hx (z + l)
  rw [e_mletterAt h (by omega), so_bd, ck_w (by omega), ck_w (by omega)]
  refine ok_ite (fun w2 => ?_) (fun w2 => nxt (fun q => w2 ((Nx z hz.1 d).mp q).2.1))
  rw [ck_w (by omega)]
  refine ok_ite (fun w3 => hit ((Nx z hz.1 d).mpr ⟨w1, w2, fun l0 => by omega⟩)) (fun w3 => ?_)
  obtain ⟨v1, v2, v3⟩ := hv.resolve_left (fun q => w3 q.1)
  unfold p_X7_firstOf
  have c1 := (hc.1.2.1 v v1.1 v1.2).1
  have k1 := (kn_ok hx (c.classLast v)).1
  have c12 := c1.2.1
  have l0 : 0 < l := by omega
  have pr := P_R hx (hl.2.2 l0).1 (l := l) (by have := (hl.2.2 l0).2; omega)
  rw [ix_of (by omega), so_bd, ← v2, ← v3]
  obtain ⟨s1, s2⟩ := e_isSame hn h (p := e - l + 1) (q := z) (l := l) pr.1 ⟨hz.1, d⟩ (by omega)
  by_cases q : Sm x (e - l + 1) x z l
  · rw [s1 q, so_bd, ck_w (by omega), if_neg (by omega)]
    exact hit ((Nx z hz.1 d).mpr ⟨w1, w2, fun _ => q⟩)
  · rw [s2 q, so_bd, ck_w (by omega), if_pos rfl]
    exact nxt (fun w => q (((Nx z hz.1 d).mp w).2.2 l0))
end ST
