/-! how many numbers a set holds -/
theorem tb_and (a b : Int) (k : Nat) : tb (biand a b) k = (tb a k && tb b k) := by
  unfold tb biand
  rw [iI_of]
  simp
theorem inR_and (a b : Int) : InR (biand a b) := inR_of _
theorem tb_255 : ∀ k : Nat, k < 32 → tb 255 k = decide (k < 8) := by decide +kernel
theorem tb_m1 : ∀ k : Nat, k < 32 → tb (-1) k = true := by decide +kernel
theorem tb_xor (a b : Int) (k : Nat) : tb (bixor a b) k = (tb a k ^^ tb b k) := by
  unfold tb bixor
  rw [iI_of]
  simp
theorem inR_xor (a b : Int) : InR (bixor a b) := inR_of _
theorem and_255 (s : Int) : 0 ≤ biand s 255 ∧ biand s 255 < 256 := by
  have e : biand s 255 = ((iI s).toBitVec &&& (iI 255).toBitVec).toInt := rfl
  have h : ((iI s).toBitVec &&& (iI 255).toBitVec).toNat ≤ 255 := by
    rw [BitVec.toNat_and]
    exact Nat.and_le_right
  have k := BitVec.toInt_eq_toNat_of_lt (x := (iI s).toBitVec &&& (iI 255).toBitVec) (by omega)
  rw [e, k]
  omega
/-- no bit from 8 on -/
theorem small_of {s : Int} (hs : InR s) (h : ∀ k, 8 ≤ k → k < 32 → tb s k = false) : 0 ≤ s ∧ s < 256 := by
  have : s = biand s 255 := by
    refine tb_ext hs (inR_and _ _) (fun k hk => ?_)
    rw [tb_and, tb_255 k hk]
    by_cases c : k < 8
    · simp [c]
    · rw [h k (by omega) hk]; simp
  rw [this]; exact and_255 s
theorem BS_small {f : Int → Int} {A : Int → Prop} {s : Int} (h : BS f A s) (hf : ∀ p, A p → f p < 8) : 0 ≤ s ∧ s < 256 := by
  refine small_of h.1 (fun k k8 hk => ?_)
  cases q : tb s k with
  | false => rfl
  | true =>
    obtain ⟨p, hp, e⟩ := (h.2 k hk).mp q
    have := hf p hp
    omega
theorem and_small {a b : Int} (h : 0 ≤ a ∧ a < 256) : 0 ≤ biand a b ∧ biand a b < 256 := by
  refine small_of (inR_and _ _) (fun k k8 hk => ?_)
  have : tb a k = false := by
    have e : a = biand a 255 := by
      have key : ∀ v : Nat, v < 256 → (v : Int) = biand v 255 := by decide +kernel
      obtain ⟨v, rfl⟩ := Int.eq_ofNat_of_zero_le h.1
      exact key v (by omega)
    rw [e, tb_and, tb_255 k hk]
    simp
    intro _; omega
  rw [tb_and, this]; rfl
def sz (v : Int) : Int := sm (fun i => biand (bishr v i) 1) 8
theorem bc8 : ∀ v : Nat, v < 256 → p_J6_bitCount_0f7a4 (v : Int) = some (sz v) := by decide +kernel
theorem sz8 : ∀ v : Nat, v < 256 → 0 ≤ sz v ∧ sz v ≤ 8 := by decide +kernel
theorem e_bitCount {v : Int} (h : 0 ≤ v ∧ v < 256) : p_J6_bitCount_0f7a4 v = some (sz v) := by
  obtain ⟨w, rfl⟩ := Int.eq_ofNat_of_zero_le h.1
  exact bc8 w (by omega)
theorem sz_le {v : Int} (h : 0 ≤ v ∧ v < 256) : 0 ≤ sz v ∧ sz v ≤ 8 := by
  obtain ⟨w, rfl⟩ := Int.eq_ofNat_of_zero_le h.1
  exact sz8 w (by omega)
theorem e_sizeOf {n : Nat} (hn : 1000 ≤ n) (v : Int) : p_X7_sizeOf n v = some (sz v) := by
  unfold p_X7_sizeOf
  have : Ok (lp (p_X7_sizeOf_b4 n v) n (0, 0)) (fun r => r = sz v) := by
    refine ok_lpJ (fun z => (0 ≤ z.2 ∧ z.2 ≤ 8) ∧ z.1 = sm (fun i => biand (bishr v i) 1) z.2) (fun z => 8 - z.2) ?_ n _ ⟨by dsimp only; omega, by dsimp only; rw [sm_0 (Int.le_refl 0)]⟩ (by dsimp only; omega)
    rintro ⟨r, i⟩ ⟨hi, hr⟩
    dsimp only at hi hr ⊢
    refine ⟨by omega, ?_⟩
    unfold p_X7_sizeOf_b4
    dsimp only
    rw [ck_w (by omega)]
    refine ok_ite (fun d => ok_so ⟨⟨by dsimp only; omega, by dsimp only; rw [sm_s hi.1, hr]⟩, by dsimp only; omega⟩) (fun d => ok_so ?_)
    rw [hr, show i = 8 by omega]; rfl
  rw [ok_eq this, so_bd]
/-! count -/
section CO
variable {n : Nat} {x : MT} {t : TxtS} {m : MtS} {C : ClsS} {c : McS} {s : MsS}
theorem e_letters (hn : 1000 ≤ n) (h : MX 0 x m) : Ok (p_X7_lettersOfAll n m) (LtS x x.n) := by
  have hx := h.1
  have nn := hx.1
  have hm : m.many 0 = x.n := h.2.1
  unfold p_X7_lettersOfAll
  refine ok_bd (P := LtS x x.n) ?_ (fun r hr => ok_so hr)
  refine ok_lpJ (fun z => (0 ≤ z.2 ∧ z.2 ≤ x.n) ∧ LtS x z.2 z.1) (fun z => x.n - z.2) ?_ n _ ⟨by dsimp only; omega, (show LtS x 0 0 from BS_0 (fun p q => by omega))⟩ (by dsimp only; omega)
  rintro ⟨q, z⟩ ⟨hz, hs⟩
  dsimp only at hz hs ⊢
  refine ⟨by omega, ?_⟩
  unfold p_X7_lettersOfAll_b4
  dsimp only
  rw [hm, ck_w (by omega), ck_w (by omega)]
  refine ok_ite (fun d => ?_) (fun d => ok_so (by rw [show z = x.n by omega] at hs; exact hs))
  have l1 := L_in hx z
  rw [e_mletterAt h ⟨hz.1, d⟩, so_bd]
  exact ok_so ⟨⟨by dsimp only; omega, BS_add (by omega) hs (fun p => by omega)⟩, by dsimp only; omega⟩
theorem LtS_small (hx : MOk x) {e v : Int} (h : LtS x e v) : 0 ≤ v ∧ v < 256 := BS_small h (fun p _ => by have := L_in hx p; omega)
theorem SS_small (hx : MOk x) {e l v : Int} (h : SS x e l v) : 0 ≤ v ∧ v < 256 := BS_small h (fun p _ => by have := L_in hx (p + 1); omega)
theorem NX_small (hx : MOk x) {e l v : Int} (h : NX x e l v) : 0 ≤ v ∧ v < 256 := BS_small h (fun p _ => by have := L_in hx (p + l); omega)
theorem WS_small (hx : MOk x) {e l v : Int} (h : WS x e l v) : 0 ≤ v ∧ v < 256 := BS_small h (fun p _ => by have := W_in hx p; omega)
theorem s_allSteps (hn : 1000 ≤ n) (h : MX 0 x m) (two : Two x C c) : Sim (p_X1_allSteps n C) (p_X7_allSteps n m c) (fun r s => r = s) := by
  have hx := h.1
  obtain ⟨hC, hc, t3, t4⟩ := id two
  have most := Cls_most hx hC
  have N0 := hC.1.1
  have ls := hC.2
  unfold p_X1_allSteps p_X7_allSteps
  rw [e_bitCount (LtS_small hx ls), so_bd]
  refine sim_r (e_letters hn h) ?_
  intro a ha
  rw [e_sizeOf hn, so_bd]
  have ea : C.letterSet = a := BS_un ls ha (fun v => Iff.rfl)
  refine sim_ok (P := fun r => r = sz C.letterSet + sm (fun k => sz (C.stepSets k)) C.size) (R := fun r => r = sz a + sm (fun k => sz (C.stepSets k)) C.size) ?_ ?_ (fun r s p q => by rw [p, q, ea])
  · refine ok_bd (P := fun r => r = sz C.letterSet + sm (fun k => sz (C.stepSets k)) C.size) ?_ (fun r hr => ok_so hr)
    refine ok_lpJ (fun z => (0 ≤ z.2 ∧ z.2 ≤ C.size) ∧ z.1 = sz C.letterSet + sm (fun k => sz (C.stepSets k)) z.2) (fun z => C.size - z.2) ?_ n _ ⟨by dsimp only; omega, by dsimp only; rw [sm_0 (Int.le_refl 0)]; omega⟩ (by dsimp only; omega)
    rintro ⟨r, k⟩ ⟨hk, hr⟩
    dsimp only at hk hr ⊢
    refine ⟨by omega, ?_⟩
    unfold p_X1_allSteps_b10
    dsimp only
    rw [ck_w (by omega), ck_w (by omega)]
    refine ok_ite (fun d => ?_) (fun d => ok_so (by rw [hr, show k = C.size by omega]; rfl))
    have r1 := (hC.1.2.1 k hk.1 d).1
    rw [ix_of (by omega), e_bitCount (SS_small hx r1.2.2.2.2.2), so_bd]
    exact ok_so ⟨⟨by dsimp only; omega, by dsimp only; rw [sm_s hk.1, hr]; omega⟩, by dsimp only; omega⟩
  · refine ok_bd (P := fun r => r = sz a + sm (fun k => sz (C.stepSets k)) C.size) ?_ (fun r hr => ok_so hr)
    refine ok_lpJ (fun z => (0 ≤ z.2 ∧ z.2 ≤ C.size) ∧ z.1 = sz a + sm (fun k => sz (C.stepSets k)) z.2) (fun z => C.size - z.2) ?_ n _ ⟨by dsimp only; omega, by dsimp only; rw [sm_0 (Int.le_refl 0)]; omega⟩ (by dsimp only; omega)
    rintro ⟨r, k⟩ ⟨hk, hr⟩
    dsimp only at hk hr ⊢
    refine ⟨by omega, ?_⟩
    unfold p_X7_allSteps_b10 p_X7_firstOf
    dsimp only
    rw [ck_w (by omega), ck_w (by omega)]
    refine ok_ite (fun d => ?_) (fun d => ok_so (by rw [hr, show k = C.size by omega]; rfl))
    have r1 := (hC.1.2.1 k hk.1 (by omega)).1
    obtain ⟨u1, u2, u3⟩ := t4 k hk.1 d
    have cc := r1.1.1
    have cl := r1.1.2.1
    have kk := (kn_ok hx (C.firstEnds k)).1
    have pr := P_R hx cc (l := C.longest k) (by omega)
    rw [ix_of (by omega), so_bd, ix_of (by omega), ← u1, ← u3]
    refine ok_bd (e_nextOf hn h ⟨by omega, pr.2.2.1⟩) ?_
    intro v hv
    rw [e_sizeOf hn, so_bd, ← NX_SS hx cc (by omega) r1.2.2.2.2.2 hv]
    exact ok_so ⟨⟨by dsimp only; omega, by dsimp only; rw [sm_s hk.1, hr]; omega⟩, by dsimp only; omega⟩
/-- the longest stretch that stands twice -/
def Lr (x : MT) (r : Int) : Prop := 0 ≤ r ∧ (r = 0 ∨ ∃ p, (1 ≤ r ∧ r ≤ x.R p) ∧ 2 ≤ cnt x p r) ∧ ∀ p l, 1 ≤ l → l ≤ x.R p → 2 ≤ cnt x p l → l ≤ r
theorem Lr_un {a b : Int} (h : Lr x a) (k : Lr x b) : a = b := by
  have key : ∀ a b, Lr x a → Lr x b → a ≤ b := by
    intro a b h k
    rcases h.2.1 with q | ⟨p, q1, q2⟩
    · have := k.1; omega
    · exact k.2.2 p a q1.1 q1.2 q2
  have := key a b h k
  have := key b a k h
  omega
theorem cnt_two (hx : MOk x) {p q l : Int} (hp : 0 ≤ p ∧ p < x.n) (hq : 0 ≤ q ∧ q < x.n) (ne : p ≠ q) (h : l ≤ x.R p) (s : Sm x q x p l) : 2 ≤ cnt x p l := by
  have a : sm (fun i => ind (i = p) + ind (i = q)) x.n ≤ cnt x p l := by
    refine sm_le (fun i _ _ => ?_)
    by_cases w : i = p
    · rw [ind_t w, ind_f (by omega), w, ind_t (Sm_rf h)]; omega
    · by_cases w2 : i = q
      · rw [ind_f w, ind_t w2, w2, ind_t s]; omega
      · rw [ind_f w, ind_f w2]; have := ind_nn (Sm x i x p l); omega
  rw [sm_add, sm_ind_one (P := fun i => i = p) hp rfl (fun i _ _ w => w), sm_ind_one (P := fun i => i = q) hq rfl (fun i _ _ w => w)] at a
  omega
theorem two_cnt (hx : MOk x) {p l : Int} (hl : 1 ≤ l) (h : 2 ≤ cnt x p l) : ∃ q, (0 ≤ q ∧ q < x.n) ∧ q ≠ p ∧ Sm x q x p l := by
  refine Classical.byContradiction (fun no => ?_)
  have : cnt x p l ≤ 1 := sm_ind_le1 (P := fun q => Sm x q x p l) (fun i j i0 i1 j0 j1 a b => by
    have e1 : i = p := Classical.byContradiction (fun w => no ⟨i, ⟨i0, i1⟩, w, a⟩)
    have e2 : j = p := Classical.byContradiction (fun w => no ⟨j, ⟨j0, j1⟩, w, b⟩)
    omega)
  omega
theorem e_longestRepeat (hn : 1000 ≤ n) (hx : MOk x) (hC : ClsOk x C) : Ok (p_X1_longestRepeat n C) (Lr x) := by
  have most := Cls_most hx hC
  have N0 := hC.1.1
  have nn := hx.1
  have fin : ∀ r, 0 ≤ r → (r = 0 ∨ ∃ p, (1 ≤ r ∧ r ≤ x.R p) ∧ 2 ≤ cnt x p r) → (∀ k, 0 ≤ k → k < C.size → 2 ≤ C.ends k → C.longest k ≤ r) → Lr x r := by
    intro r r0 r1 r2
    refine ⟨r0, r1, fun p l hl hR h2 => ?_⟩
    have rp := R_P hx ⟨hl, hR⟩
    have cl := hC.1.2.2.2.2 (p + l - 1) l rp.2.1.1 rp.2.1.2 hl rp.2.2.2.1 (Or.inl rp.2.1.2)
    have r3 := (hC.1.2.1 _ cl.1.1 cl.1.2).1
    have e1 := ce_cs hx (by omega) cl.2.2
    have e2 := r3.1.2.2.1 l cl.2.1.1 cl.2.1.2
    have e3 := ce_cnt hx rp.2.1 hl
    rw [show p + l - 1 - l + 1 = p by omega] at e3
    have := r2 _ cl.1.1 cl.1.2 (by rw [r3.2.2.1]; omega)
    have := cl.2.1.2
    omega
  unfold p_X1_longestRepeat
  refine ok_bd (P := Lr x) ?_ (fun r hr => ok_so hr)
  refine ok_lpJ (fun z => (0 ≤ z.2 ∧ z.2 ≤ C.size) ∧ (0 ≤ z.1 ∧ z.1 ≤ 60) ∧ (z.1 = 0 ∨ ∃ p, (1 ≤ z.1 ∧ z.1 ≤ x.R p) ∧ 2 ≤ cnt x p z.1) ∧ ∀ k, 0 ≤ k → k < z.2 → 2 ≤ C.ends k → C.longest k ≤ z.1) (fun z => C.size - z.2) ?_ n _ ⟨by dsimp only; omega, by dsimp only; omega, Or.inl rfl, fun k a b => by dsimp only at b; omega⟩ (by dsimp only; omega)
  rintro ⟨r, k⟩ ⟨hk, hr, h1, h2⟩
  dsimp only at hk hr h1 h2 ⊢
  refine ⟨by omega, ?_⟩
  unfold p_X1_longestRepeat_b4
  dsimp only
  rw [ck_w (by omega), ck_w (by omega)]
  refine ok_ite (fun d => ?_) (fun d => ok_so (fin r hr.1 h1 (fun i a b => h2 i a (by omega))))
  have r1 := (hC.1.2.1 k hk.1 d).1
  have cc := r1.1.1
  have cl := r1.1.2.1
  have kk := (kn_ok hx (C.firstEnds k)).1
  have pp := P_in hx (C.firstEnds k)
  have en := r1.2.2.1
  have el := ce_le hx (C.firstEnds k) (C.longest k)
  rw [ix_of (by omega), ck_w (by omega)]
  refine ok_ite (fun g => ?_) (fun g => ?_)
  · refine ok_so ⟨⟨by dsimp only; omega, hr, h1, fun i a b q => ?_⟩, by dsimp only; omega⟩
    dsimp only at b ⊢
    by_cases w : i = k
    · rw [w] at q; omega
    · exact h2 i a (by omega) q
  · rw [ck_w (by omega), ck_w (by omega)]
    refine ok_so ⟨⟨by dsimp only; omega, by dsimp only; omega, ?_, fun i a b q => ?_⟩, by dsimp only; omega⟩
    · dsimp only
      by_cases w : r < C.longest k
      · rw [show max r (C.longest k) = C.longest k by omega]
        have pr := P_R hx cc (l := C.longest k) (by omega)
        exact Or.inr ⟨_, ⟨by omega, pr.2.2.1⟩, by rw [← ce_cnt hx cc (by omega)]; omega⟩
      · rw [show max r (C.longest k) = r by omega]; exact h1
    · dsimp only at b ⊢
      by_cases w : i = k
      · rw [w]; omega
      · have := h2 i a (by omega) q; omega
theorem e_longestTwice (hn : 1000 ≤ n) (h : MX 0 x m) (hs : SrtOk x s.sorted s.near) : Ok (p_X7_longestTwice n m s) (Lr x) := by
  have hx := h.1
  have nn := hx.1
  have hm : m.many 0 = x.n := h.2.1
  unfold p_X7_longestTwice
  refine ok_bd (P := Lr x) ?_ (fun r hr => ok_so hr)
  refine ok_lpJ (fun z => (0 ≤ z.2 ∧ z.2 ≤ x.n) ∧ (0 ≤ z.1 ∧ z.1 ≤ 60) ∧ (z.1 = 0 ∨ ∃ p, (1 ≤ z.1 ∧ z.1 ≤ x.R p) ∧ 2 ≤ cnt x p z.1) ∧ ∀ k, 0 ≤ k → k < z.2 → s.near k ≤ z.1) (fun z => x.n - z.2) ?_ n _ ⟨by dsimp only; omega, by dsimp only; omega, Or.inl rfl, fun k a b => by dsimp only at b; omega⟩ (by dsimp only; omega)
  rintro ⟨r, k⟩ ⟨hk, hr, h1, h2⟩
  dsimp only at hk hr h1 h2 ⊢
  refine ⟨by omega, ?_⟩
  unfold p_X7_longestTwice_b4
  dsimp only
  rw [hm, ck_w (by omega), ck_w (by omega)]
  refine ok_ite (fun d => ?_) (fun d => ok_so ⟨hr.1, h1, fun p l hl hR q => ?_⟩)
  · have nk := near_nn hx hs ⟨hk.1, d⟩
    have rr := R_le hx (s.sorted k)
    rw [ix_of (by omega), ck_w (by omega), ck_w (by omega)]
    refine ok_ite (fun g => ?_) (fun g => ?_)
    · refine ok_so ⟨⟨by dsimp only; omega, by dsimp only; omega, ?_, fun i a b => ?_⟩, by dsimp only; omega⟩
      · dsimp only
        have e := hs.2.2 k hk.1 d
        have k0 : k ≠ 0 := fun w => by rw [if_pos w] at e; omega
        rw [if_neg k0] at e
        have i1 := hs.1.2 (k - 1) (by omega) (by omega)
        have i2 := hs.1.2 k hk.1 d
        refine Or.inr ⟨s.sorted k, ⟨by omega, nk.2⟩, cnt_two hx i2 i1 (fun w => ?_) nk.2 ?_⟩
        · have := rank_un hs (i := k) (j := k - 1) (by omega) (by omega) w
          omega
        · exact (lc_iff hx hx nk.1).mp (by omega)
      · dsimp only at b ⊢
        by_cases w : i = k
        · rw [w]; omega
        · have := h2 i a (by omega); omega
    · refine ok_so ⟨⟨by dsimp only; omega, hr, h1, fun i a b => ?_⟩, by dsimp only; omega⟩
      dsimp only at b ⊢
      by_cases w : i = k
      · rw [w]; omega
      · exact h2 i a (by omega)
  · obtain ⟨q', q1, q2, q3⟩ := two_cnt hx hl q
    have hp := R_in hx (p := p) (by omega)
    obtain ⟨i, i1, i2⟩ := rank_ex hs hp
    obtain ⟨j, j1, j2⟩ := rank_ex hs q1
    have key : ∀ i j, 0 ≤ i → i < j → j < x.n → Sm x (s.sorted i) x (s.sorted j) l → l ≤ r := by
      intro i j a b g w
      have : ¬ s.near j < l := fun u => (near_iff hx hs (k := j) ⟨by omega, g⟩ hl).mpr u i a b w
      have := h2 j (by omega) (by omega)
      omega
    by_cases w : i < j
    · exact key i j i1.1 w j1.2 (by rw [i2, j2]; exact Sm_sy q3)
    · by_cases w2 : j < i
      · exact key j i j1.1 w2 i1.2 (by rw [i2, j2]; exact q3)
      · exact absurd (by rw [← i2, ← j2, show i = j by omega]) q2
end CO
