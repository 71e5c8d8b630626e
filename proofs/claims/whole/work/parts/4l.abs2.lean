/-! absent, both sides -/
section AC
variable {n : Nat} {x : MT} {m : MtS} {T : TxtS} {P : PadS} {M : MpS}
theorem e_writeC (hn : 1000 ≤ n) (h : TX x T) {p l : Int} (hp : 0 ≤ p ∧ p ≤ 1000) (hl : 0 ≤ l ∧ l ≤ 60) : Ok (p_X3_write n P T p l) (fun r => r.size = l ∧ ∀ i, 0 ≤ i → i < l → r.characters i = 97 + x.L (p + i)) := by
  unfold p_X3_write p_X3_clear
  rw [so_bd]
  refine ok_bd (P := fun r => r.size = l ∧ ∀ i, 0 ≤ i → i < l → r.characters i = 97 + x.L (p + i)) ?_ (fun r hr => ok_so hr)
  refine ok_lpJ (fun z => (0 ≤ z.1 ∧ z.1 ≤ l) ∧ z.2.size = z.1 ∧ ∀ i, 0 ≤ i → i < z.1 → z.2.characters i = 97 + x.L (p + i)) (fun z => l - z.1) ?_ n _ ⟨by dsimp only; omega, rfl, fun i a b => by dsimp only at b; omega⟩ (by dsimp only; omega)
  rintro ⟨i, Q⟩ ⟨hi, h1, h2⟩
  dsimp only at hi h1 h2 ⊢
  refine ⟨by omega, ?_⟩
  unfold p_X3_write_b7 p_X3_add
  dsimp only
  rw [ck_w (by omega), ck_w (by omega)]
  refine ok_ite (fun d => ?_) (fun d => ok_so ⟨by omega, fun j a b => h2 j a (by omega)⟩)
  rw [e_letterAt h (by unfold InR; omega), so_bd, ck_w (by omega), if_pos (by omega), ix_of (by omega), so_bd]
  refine ok_so ⟨⟨by dsimp only; omega, ?_, fun j a b => ?_⟩, by dsimp only; omega⟩
  · show Q.size + 1 = i + 1; omega
  · show up _ _ _ j = _
    dsimp only at b
    by_cases w : j = i
    · rw [w, h1, up_s]
    · rw [up_n _ _ (by omega)]; exact h2 j a (by omega)
/-- all the sequences before stand somewhere -/
def TrI (x : MT) (b L : Int) (K : Nat) (k : Int) (f : Int → Int) : Prop := vlN b f K = k ∧ ∀ i, 0 ≤ i → i < k → ∃ p, (0 ≤ p ∧ p < x.n) ∧ ∃ g, vlN b g K = i ∧ Sf x g L p
theorem TrI_le (hx : MOk x) {b L : Int} {K : Nat} {k : Int} {f : Int → Int} (hK : (K : Int) = L) (hk : 0 ≤ k) (h : TrI x b L K k f) : k ≤ x.n := by
  have := php (N := k) (n := x.n) (T := fun _ => True) (D := fun i p => ∃ g, vlN b g K = i ∧ Sf x g L p) hx.1.1 (fun c a e _ => h.2 c a e) (by
    rintro c c' p _ _ _ _ _ _ ⟨g, g1, g2⟩ ⟨g', g3, g4⟩
    rw [← g1, ← g3]
    exact vl_cg K (fun i a e => ((g2.2 i a (by omega)).symm.trans (g4.2 i a (by omega)))))
  rw [sm_cg (g := fun _ => 1) (fun i _ _ => ind_t trivial), sm_c 1 hk] at this
  omega
def abR (x : MT) (b L : Int) (K : Nat) (P : PadS) (M : MpS) (z : Int × Int × PadS × TxtS) (w : Int × Row × Int × MrS) : Prop := z.1 = w.1 ∧ (z.1 = 0 ∨ z.1 = 1) ∧ (0 ≤ z.2.1 ∧ z.2.1 ≤ 61) ∧ z.2.2.1 = P ∧ w.2.1 = M.pad ∧ w.2.2.1 = M.padMany ∧ (z.1 = 1 → OneW L z.2.2.2 ∧ (∀ i, 0 ≤ i → i < L → z.2.2.2.letters i = w.2.2.2 i ∧ 0 ≤ w.2.2.2 i ∧ w.2.2.2 i < b) ∧ TrI x b L K z.2.1 z.2.2.2.letters)
def abQ (T : TxtS) (m : MtS) (P : PadS) (M : MpS) : (Int × PadS × TxtS × TxtS) ⊕ (PadS × TxtS) → (Int × MpS × MtS × MrS) ⊕ (Row × Int × MrS) → Prop
  | .inl r, .inl s => r.1 = s.1 ∧ PR r.2.1 s.2.1 ∧ r.2.2.1 = T
  | .inr r, .inr s => r.1 = P ∧ s.1 = M.pad ∧ s.2.1 = M.padMany
  | _, _ => False
theorem s_abIn (hn : 1000 ≤ n) (h : TX x T) (k : MX 0 x m) {b L : Int} (hb : 1 ≤ b ∧ b ≤ 8) (hL : 1 ≤ L ∧ L ≤ 60) {Q : TxtS} {r : MrS} (hQ : OneW L Q) (hq : ∀ i, 0 ≤ i → i < L → Q.letters i = 0 ∧ r i = 0) : Sim (lp (p_X6_absent_b39 n T b L) n (1, 0, P, Q)) (lp (p_X7_absent_b47 n m b L) n (1, M.pad, M.padMany, r)) (abQ T m P M) := by
  have hx := h.2
  have nn := hx.1
  obtain ⟨K, rfl⟩ := Int.eq_ofNat_of_zero_le (show 0 ≤ L by omega)
  have v0 : vlN b Q.letters K = 0 := by
    rw [vl_cg (g := fun _ => 0) K (fun i a e => (hq i a e).1)]
    have : ∀ j : Nat, vlN b (fun _ => 0) j = 0 := by
      intro j
      induction j with
      | zero => rfl
      | succ j ih => show vlN b (fun _ => 0) j * b + 0 = 0; rw [ih]; omega
    exact this K
  refine lp_sim (abR x b K K P M) (abQ T m P M) (fun z => 62 - z.2.1) ?_ n n _ _ ⟨rfl, Or.inr rfl, by dsimp only; omega, rfl, rfl, rfl, fun _ => ⟨hQ, fun i a e => ⟨by rw [(hq i a e).1]; exact (hq i a e).2.symm, by have := (hq i a e).2; dsimp only; omega⟩, v0, fun i a e => by dsimp only at e; omega⟩⟩ (by dsimp only; omega) (by dsimp only; omega) (by omega) (by omega)
  rintro ⟨e, c, P0, Q0⟩ ⟨e', pd, pm', r0⟩ ⟨r1, r2, r3, r4, r5, r6, r7⟩
  dsimp only at r1 r2 r3 r4 r5 r6 r7 ⊢
  subst r1 r4 r5 r6
  have c60 : e = 1 → c ≤ 60 := fun w => by have := TrI_le hx rfl r3.1 (r7 w).2.2; omega
  unfold p_X6_absent_b39 p_X7_absent_b47
  dsimp only
  rcases r2 with e0 | e1
  · refine Or.inr ?_
    rw [ck_w (x := c) (by omega)]
    by_cases w : 60 < c
    · rw [if_pos w, ck_w (x := e) (by omega), if_pos e0]
      exact ⟨_, _, rfl, rfl, rfl, rfl, rfl⟩
    · rw [if_neg w, ck_w (x := e) (by omega), if_pos e0, ck_w (x := e) (by omega), if_pos e0]
      exact ⟨_, _, rfl, rfl, rfl, rfl, rfl⟩
  · obtain ⟨o1, o2, o3⟩ := r7 e1
    have cc := c60 e1
    have o2' : ∀ i, 0 ≤ i → i < (K : Int) → 0 ≤ Q0.letters i ∧ Q0.letters i < 8 := fun i a d => by have := o2 i a d; omega
    have tq := sq_TX o1 hL o2'
    obtain ⟨pn, pr1, pr2⟩ := pm_r (sqP_ok hL o2')
    have pn' : (pm (sqP Q0.letters K)).n = K := rfl
    obtain ⟨q, q1, q2⟩ := e_endNumber hn h tq (by omega) ⟨pr1, pr2⟩ (v := 0) (by decide)
    obtain ⟨t1, t2⟩ := e_tried hn k (r := r0) hL (fun i a d => by have := o2 i a d; omega)
    have sfr : ∀ p, Sf x r0 K p ↔ Sf x Q0.letters K p := fun p => ⟨fun w => ⟨w.1, fun i a d => (w.2 i a d).trans (o2 i a d).1.symm⟩, fun w => ⟨w.1, fun i a d => (w.2 i a d).trans (o2 i a d).1⟩⟩
    rw [ck_w (x := e) (by omega), if_neg (c := e = 0) (by omega), ck_w (x := c) (by omega), if_neg (by omega), ck_w (x := e) (by omega), if_neg (c := e = 0) (by omega), q1, so_bd]
    by_cases st : ∃ p, Sf x Q0.letters K p
    · -- it stands: the next
      obtain ⟨p, hp⟩ := st
      have rp := R_in hx (p := p) (by have := hp.1; omega)
      have qn : q ≠ -6 ∧ (0 ≤ q ∧ q ≤ 60) := by
        rcases q2 with ⟨p', a1, a2, a3, a4⟩ | ⟨a1, a2⟩
        · omega
        · exfalso
          obtain ⟨y, y1, y2, y3⟩ := least (P := At x (pm (sqP Q0.letters K))) p rp.1 ((Sf_At (by omega)).mpr hp)
          exact a2 y y1.1 (by omega) y2 (sm_zero (fun i u v => ind_f (y3 i u v)))
      rw [t1 ⟨p, (sfr p).mpr hp⟩, so_bd, ck_w (x := q) (by omega), if_neg (c := q = -6) qn.1, ck_w (x := 1) (by omega), if_neg (c := (1 : Int) = 0) (by omega)]
      have ol : Q0.length = K := o1.1
      obtain ⟨⟨d, Q1⟩, f1, f2, f3⟩ := e_turn hn (T := Q0) hb (by omega) (fun i a w => by have := o2 i a (by omega); omega)
      obtain ⟨⟨d', s1⟩, g1, g2⟩ := e_nextTried hn (r := r0) hb hL (fun i a w => by have := o2 i a w; omega)
      dsimp only at f2 f3 g2
      rw [f1, so_bd, g1, so_bd]
      rw [ol] at f3
      refine Or.inl ⟨_, _, rfl, rfl, ?_, by dsimp only; omega, by omega⟩
      rcases f3 with ⟨f3, j, fj⟩ | ⟨f3, fa⟩
      · rcases g2 with ⟨g2, j', gj⟩ | ⟨g2, ga⟩
        · have ag := Nq_un (fun i a w => (o2 i a w).1) fj gj
          refine ⟨by dsimp only; omega, Or.inr f3, by dsimp only; omega, rfl, rfl, rfl, fun _ => ⟨⟨by rw [f2.1]; exact ol, by rw [f2.2.1]; exact o1.2.1, fun i a w => ?_⟩, fun i a w => ⟨ag i a w, ?_⟩, ?_, fun i a w => ?_⟩⟩
          · dsimp only
            rw [f2.2.2.1, f2.2.2.2.1, f2.2.2.2.2]; exact o1.2.2 i a w
          · dsimp only
            rw [← ag i a w]
            by_cases u : i < j
            · rw [fj.2.2.2.2 i a u]; have := o2 i a w; omega
            · by_cases u2 : i = j
              · rw [u2, fj.2.2.2.1]; have := o2 j fj.1.1 fj.1.2; have := fj.2.1; omega
              · rw [(fj.2.2.1 i (by omega) w).2]; omega
          · dsimp only
            rw [vl_next fj rfl, o3.1]
          · dsimp only at w
            by_cases u : i = c
            · rw [u]; exact ⟨p, rp, Q0.letters, o3.1, hp⟩
            · exact o3.2 i a (by omega)
        · have := ga j fj.1.1 fj.1.2
          have := o2 j fj.1.1 fj.1.2
          have := fj.2.1
          omega
      · rcases g2 with ⟨g2, j', gj⟩ | ⟨g2, ga⟩
        · have := fa j' gj.1.1 gj.1.2
          have := o2 j' gj.1.1 gj.1.2
          have := gj.2.1
          omega
        · exact ⟨by dsimp only; omega, Or.inl f3, by dsimp only; omega, rfl, rfl, rfl, fun w => by dsimp only at w; omega⟩
    · -- it is absent
      have q6 : q = -6 := by
        rcases q2 with ⟨p', a1, a2, a3, a4⟩ | ⟨a1, a2⟩
        · exact absurd ⟨p', (Sf_At (by omega)).mp a2⟩ st
        · exact a1
      rw [t2 (fun ⟨p, w⟩ => st ⟨p, (sfr p).mp w⟩), so_bd, ck_w (x := q) (by omega), if_pos q6, ck_w (x := 0) (by omega), if_pos (c := (0 : Int) = 0) rfl]
      obtain ⟨P1, f1, f2, f3⟩ := e_writeC hn tq (P := P0) (p := 0) (l := K) (by omega) (by omega)
      have lm : Ok (lp (p_X7_absent_b62 n r0 K) n (0, M.pad)) (fun A => ∀ i, 0 ≤ i → i < (K : Int) → A i = 97 + r0 i) := by
        refine ok_lpJ (fun z => (0 ≤ z.1 ∧ z.1 ≤ (K : Int)) ∧ ∀ i, 0 ≤ i → i < z.1 → z.2 i = 97 + r0 i) (fun z => K - z.1) ?_ n _ ⟨by dsimp only; omega, fun i a d => by dsimp only at d; omega⟩ (by dsimp only; omega)
        rintro ⟨i, A⟩ ⟨hi, hA⟩
        dsimp only at hi hA ⊢
        refine ⟨by omega, ?_⟩
        unfold p_X7_absent_b62
        dsimp only
        rw [ck_w (by omega), ck_w (by omega)]
        refine ok_ite (fun d => ?_) (fun d => ok_so (fun j a w => hA j a (by omega)))
        rw [ix_of (by omega), ix_of (by omega)]
        refine ok_so ⟨⟨by dsimp only; omega, fun j a w => ?_⟩, by dsimp only; omega⟩
        dsimp only at w ⊢
        by_cases u : j = i
        · rw [u, up_s]
        · rw [up_n _ _ u]; exact hA j a (by omega)
      obtain ⟨A, g1, g2⟩ := lm
      rw [f1, so_bd, g1, so_bd]
      refine Or.inr ⟨_, _, rfl, rfl, rfl, ⟨f2.symm, ?_, fun i a w => ?_⟩, rfl⟩
      · dsimp only; omega
      · dsimp only at w ⊢
        have iK : i < (K : Int) := by omega
        have e1 := f3 i a iK
        have e2 := g2 i a iK
        have e3 := (pm_at (P := sqP Q0.letters K) (i := i) ⟨a, iK⟩).1
        rw [show (0 : Int) + i = i by omega, e3] at e1
        have e4 : (sqP Q0.letters K).characters i = Q0.letters i + 97 := rfl
        have := o2 i a iK
        have e5 : MpS.pad (A, (K : Int)) i = A i := rfl
        rw [e1, e5, e2, e4]
        omega
end AC
