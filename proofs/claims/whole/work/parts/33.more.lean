/-! more, and the number of distinct factors -/
/-- the sum of a row of ones between two bounds -/
theorem diff_sum {a b : Int} (h0 : 0 ≤ a) (h : a ≤ b) (hb : b ≤ 60) : b - a = sm (fun l => ind (a < l ∧ l ≤ b)) 61 := (sm_between h0 h (by omega)).symm
/-- what is no factor of the other text -/
noncomputable def gN (x y : MT) (p l : Int) : Int := ind (∀ q, 0 ≤ q → q < y.n → ¬ Sm x p y q l)
theorem gN_inv (x y : MT) : Inv x (gN x y) := by
  intro p q l hl s
  refine ind_i ⟨fun h r a b k => h r a b (Sm_tr s k), fun h r a b k => h r a b (Sm_tr (Sm_sy s) k)⟩
theorem Att_Kn {x : MT} {S : Row} {e : Int} {r : Int × Row} (h : advQ x x S e e r) : Kn x e r.1 := by
  obtain ⟨h1, h2, h3, h4, h5⟩ := h
  exact ⟨h3, fun i a b => by have := h1 i a b; omega, h5⟩
theorem e_only {n : Nat} (hn : 1000 ≤ n) {H : HisS} (h : HH H) {U V : TxtS} {S R : SwpS} {a b : Int} (ha : 0 ≤ a ∧ a < H.size) (hb : 0 ≤ b ∧ b < H.size) (hU : InR U.version ∧ (U.version = a → TV H a U)) (hV : InR V.version ∧ (V.version = b → TV H b V)) :
    Ok (p_X6_factorsOfOnly n H U V S R a b) (fun r => r.1 = FS (nb (ct H a)) (gN (nb (ct H a)) (nb (ct H b))) ∧ TV H a r.2.1 ∧ TV H b r.2.2.1) := by
  unfold p_X6_factorsOfOnly
  refine ok_bd (e_takeVersion hn h ha hU.1 hU.2) (fun T hT => ok_bd (e_takeVersion hn h hb hV.1 hV.2) (fun T2 hT2 => ?_))
  have hx : MOk (nb (ct H a)) := nb_ok (ct_ok h a ha.1 ha.2)
  have hy : MOk (nb (ct H b)) := nb_ok (ct_ok h b hb.1 hb.2)
  have tx : TX (nb (ct H a)) T := ⟨hT.2.2.1, hx⟩
  have ty : TX (nb (ct H b)) T2 := ⟨hT2.2.2.1, hy⟩
  generalize nb (ct H a) = x at *
  generalize nb (ct H b) = y at *
  have nx1 := hx.1
  have ny1 := hy.1
  refine ok_bd (P := fun r => ∃ K : Row, (∀ e, 0 ≤ e → e < x.n → Kn x e (K e)) ∧ r.1 = sm (fun e => sm (fun l => ind (K e < l ∧ l ≤ x.P e + 1) * gN x y (e - l + 1) l) 61) x.n) ?_ ?_
  · refine ok_lpJ (fun z => (0 ≤ z.2.1 ∧ z.2.1 ≤ x.n) ∧ (∀ i, 0 ≤ i → i < z.2.1 - 1 → 1 ≤ z.2.1 → z.2.2.1 i = cs x (z.2.1 - 1) x i) ∧ (∀ i, 0 ≤ i → i < y.n → 1 ≤ z.2.1 → z.2.2.2 i = cs x (z.2.1 - 1) y i) ∧ ∃ K : Row, (∀ e, 0 ≤ e → e < z.2.1 → Kn x e (K e)) ∧ z.1 = sm (fun e => sm (fun l => ind (K e < l ∧ l ≤ x.P e + 1) * gN x y (e - l + 1) l) 61) z.2.1) (fun z => x.n - z.2.1) ?_ n _ ?_ ?_
    · rintro ⟨f, e, A, B⟩ ⟨he, hA, hB, K, hK, hf⟩
      dsimp only at he hA hB hK hf ⊢
      refine ⟨by omega, ?_⟩
      unfold p_X6_factorsOfOnly_b29
      dsimp only
      rw [e_lengthT tx, so_bd, ck_w (by omega), ck_w (by omega)]
      refine ok_ite (fun c => ?_) (fun c => ?_)
      · rw [adv_al]
        have he2 : 0 ≤ e ∧ e < x.n := ⟨he.1, c⟩
        have hpe := hx.2.1 e he.1 c
        refine ok_bd (e_advance hn tx tx he2 ⟨he.1, by omega⟩ (fun q i u v => hA i u (by omega) (by omega))) (fun r1 q1 => ?_)
        rw [e_lengthT ty, so_bd]
        refine ok_bd (e_advance hn tx ty he2 ⟨by omega, by omega⟩ (fun q i u v => hB i u (by omega) (by omega))) (fun r2 q2 => ?_)
        have kn := Att_Kn q1
        have kl := Kn_le hx kn
        obtain ⟨s1, s2, s3, s4, s5⟩ := q2
        have t3 := q1.2.2.1
        have t4 := q1.2.2.2.1
        have there : r2.1 ≤ x.P e + 1 := by
          rcases s5 with g | ⟨i, hi, g⟩
          · omega
          · have := cs_le hx hy e i; omega
        rw [e_placeAt tx (by omega), so_bd, ck_w (by omega), ck_w (by omega)]
        refine ok_so ⟨⟨by dsimp only; omega, fun i u v w => ?_, fun i u v w => ?_, fun i => if i = e then r1.1 else K i, fun i u v => ?_, ?_⟩, by dsimp only; omega⟩
        · dsimp only at v ⊢
          rw [show e + 1 - 1 = e by omega]; exact (q1.1 i u (by omega)).1
        · dsimp only at v ⊢
          rw [show e + 1 - 1 = e by omega]; exact (s1 i u v).1
        · dsimp only at v ⊢
          by_cases g : i = e
          · rw [if_pos g, g]; exact kn
          · rw [if_neg g]; exact hK i u (by omega)
        · dsimp only
          rw [sm_s he.1, if_pos rfl, hf]
          congr 1
          · exact sm_cg (fun i u v => by rw [if_neg (by omega)])
          · rw [diff_sum (a := max r1.1 r2.1) (b := x.P e + 1) (by omega) (by omega) (by omega)]
            refine sm_cg (fun l l0 l1 => ?_)
            unfold gN
            rw [← ind_and]
            refine ind_i ⟨fun ⟨g1, g2⟩ => ⟨⟨by omega, g2⟩, fun q a b s => ?_⟩, fun ⟨⟨g1, g2⟩, g3⟩ => ⟨?_, g2⟩⟩
            · have hq : q + l ≤ y.n := by
                have := hy.2.1 q a b
                have := s.2.1
                omega
              have s6 := (cs_iff hx hy he2 (d := q + l - 1) (l := l) ⟨by omega, by omega⟩ (by omega)).mpr (by rw [show q + l - 1 - l + 1 = q by omega]; exact s)
              have := s1 (q + l - 1) (by omega) (by omega)
              omega
            · by_cases g : l ≤ r2.1
              · rcases s5 with d | ⟨i, hi, d⟩
                · omega
                · have s6 := (cs_iff hx hy he2 (d := i) ⟨by omega, by omega⟩ (l := l) (by omega)).mp (by omega)
                  have hi2 := Sm_in hy (by omega) (Sm_sy s6)
                  exact absurd s6 (g3 (i - l + 1) hi2.1 hi2.2)
              · omega
      · have e1 : e = x.n := by omega
        subst e1
        exact ok_so ⟨K, hK, hf⟩
    · refine ⟨by dsimp only; omega, fun i u v w => absurd w (by dsimp only; omega), fun i u v w => absurd w (by dsimp only; omega), fun _ => 0, fun e u v => absurd v (by dsimp only; omega), ?_⟩
      dsimp only
      rw [sm_0 (Int.le_refl 0)]
    · dsimp only; omega
  · rintro r ⟨K, hK, hr⟩
    refine ok_so ⟨?_, hT, hT2⟩
    rw [FS_ends hx hK] at hr
    exact hr
/-- the reference: more -/
theorem e_mmore {n : Nat} (hn : 1000 ≤ n) {x y : MT} {m : MtS} (h : MX 0 x m) (k : MX 1 y m) {s : MsS} (hs : SrtOk x s.sorted s.near) : Ok (lp (p_X7_more_b39 n m s) n (0, 0)) (fun r => r = FS x (gN x y)) := by
  have hx := h.1
  have hy := k.1
  have nx1 := hx.1
  have ny1 := hy.1
  have hm : m.many 0 = x.n := h.2.1
  have hm1 : m.many 1 = y.n := k.2.1
  refine ok_mono (P := fun r => r = sm (fun k => sm (fun l => ind (s.near k < l ∧ l ≤ x.R (s.sorted k)) * gN x y (s.sorted k) l) 61) x.n) ?_ (fun r q => by rw [q]; exact FS_rank hx hs (gN_inv x y))
  refine ok_lpJ (fun z => (0 ≤ z.2 ∧ z.2 ≤ x.n) ∧ z.1 = sm (fun k => sm (fun l => ind (s.near k < l ∧ l ≤ x.R (s.sorted k)) * gN x y (s.sorted k) l) 61) z.2) (fun z => x.n - z.2) ?_ n _ ?_ ?_
  · rintro ⟨f, i⟩ ⟨hi, hf⟩
    dsimp only at hi hf ⊢
    refine ⟨by omega, ?_⟩
    unfold p_X7_more_b39
    dsimp only
    rw [hm, ck_w (by omega), ck_w (by omega)]
    refine ok_ite (fun c => ?_) (fun c => ?_)
    · have hp := hs.1.2 i hi.1 c
      have hr := hx.2.1 _ hp.1 hp.2
      have hnr := near_nn hx hs ⟨hi.1, c⟩
      rw [ix_of (by omega)]
      refine ok_bd (P := fun v => s.near i ≤ v ∧ v ≤ x.R (s.sorted i) ∧ (∀ q, 0 ≤ q → q < y.n → lc x (s.sorted i) y q ≤ v) ∧ (v = s.near i ∨ ∃ q, (0 ≤ q ∧ q < y.n) ∧ lc x (s.sorted i) y q = v)) ?_ ?_
      · refine ok_lpJ (fun z => (0 ≤ z.2 ∧ z.2 ≤ y.n) ∧ s.near i ≤ z.1 ∧ z.1 ≤ x.R (s.sorted i) ∧ (∀ q, 0 ≤ q → q < z.2 → lc x (s.sorted i) y q ≤ z.1) ∧ (z.1 = s.near i ∨ ∃ q, (0 ≤ q ∧ q < y.n) ∧ lc x (s.sorted i) y q = z.1)) (fun z => y.n - z.2) ?_ n _ ?_ ?_
        · rintro ⟨v, q⟩ ⟨hq, h1, h2, h3, h4⟩
          dsimp only at hq h1 h2 h3
          refine ⟨by dsimp only; omega, ?_⟩
          unfold p_X7_more_b62
          dsimp only
          rw [hm1, ck_w (by omega), ck_w (by omega)]
          refine ok_ite (fun d => ?_) (fun d => ?_)
          · have l1 := lc_le hx hy (s.sorted i) q
            have l0 := lc_nn hx hy (s.sorted i) q
            rw [ix_of (by omega), e_alike hn (Or.inl rfl) (Or.inr rfl) h k hp ⟨hq.1, d⟩, so_bd, ck_w (by omega), ck_w (by omega)]
            refine ok_ite (fun g => ?_) (fun g => ?_)
            · refine ok_so ⟨⟨by dsimp only; omega, by dsimp only; omega, l1.1, fun j u w => ?_, Or.inr ⟨q, ⟨hq.1, d⟩, rfl⟩⟩, by dsimp only; omega⟩
              dsimp only at w ⊢
              by_cases e : j = q
              · rw [e]; exact Int.le_refl _
              · have := h3 j u (by omega); omega
            · refine ok_so ⟨⟨by dsimp only; omega, h1, h2, fun j u w => ?_, h4⟩, by dsimp only; omega⟩
              dsimp only at w ⊢
              by_cases e : j = q
              · rw [e]; omega
              · exact h3 j u (by omega)
          · exact ok_so ⟨h1, h2, fun j u w => h3 j u (by omega), h4⟩
        · exact ⟨by dsimp only; omega, Int.le_refl _, hnr.2, fun q u v => absurd v (by dsimp only; omega), Or.inl rfl⟩
        · dsimp only; omega
      · rintro v ⟨v1, v2, v3, v4⟩
        rw [ix_of (by omega), e_rest (Or.inl rfl) h hp, so_bd]
        refine ok_so ⟨⟨by dsimp only; omega, ?_⟩, by dsimp only; omega⟩
        dsimp only
        rw [sm_s hi.1, hf]
        congr 1
        rw [diff_sum (a := v) (b := x.R (s.sorted i)) (by omega) (by omega) (by omega)]
        refine sm_cg (fun l l0 l1 => ?_)
        unfold gN
        rw [← ind_and]
        refine ind_i ⟨fun ⟨g1, g2⟩ => ⟨⟨by omega, g2⟩, fun q a b sm => ?_⟩, fun ⟨⟨g1, g2⟩, g3⟩ => ⟨?_, g2⟩⟩
        · have := (lc_iff hx hy l0).mpr sm
          have := v3 q a b
          omega
        · by_cases g : l ≤ v
          · rcases v4 with d | ⟨q, hq, d⟩
            · omega
            · exact absurd ((lc_iff hx hy l0).mp (by omega)) (g3 q hq.1 hq.2)
          · omega
    · have e1 : i = x.n := by omega
      subst e1
      exact ok_so hf
  · exact ⟨by dsimp only; omega, by dsimp only; rw [sm_0 (Int.le_refl 0)]⟩
  · dsimp only; omega
theorem e_distinct {n : Nat} (hn : 1000 ≤ n) {x y : MT} {m : MtS} (h : MX 0 x m) (hy : y.n = 0) {s : MsS} (hs : SrtOk x s.sorted s.near) : p_X7_distinct n m s = some (FS x (gN x y)) := by
  have hx := h.1
  have nx1 := hx.1
  have hm : m.many 0 = x.n := h.2.1
  unfold p_X7_distinct
  have : Ok (lp (p_X7_distinct_b4 n m s) n (0, 0)) (fun r => r = FS x (gN x y)) := by
    refine ok_mono (P := fun r => r = sm (fun k => sm (fun l => ind (s.near k < l ∧ l ≤ x.R (s.sorted k)) * gN x y (s.sorted k) l) 61) x.n) ?_ (fun r q => by rw [q]; exact FS_rank hx hs (gN_inv x y))
    refine ok_lpJ (fun z => (0 ≤ z.2 ∧ z.2 ≤ x.n) ∧ z.1 = sm (fun k => sm (fun l => ind (s.near k < l ∧ l ≤ x.R (s.sorted k)) * gN x y (s.sorted k) l) 61) z.2) (fun z => x.n - z.2) ?_ n _ ?_ ?_
    · rintro ⟨f, i⟩ ⟨hi, hf⟩
      dsimp only at hi hf ⊢
      refine ⟨by omega, ?_⟩
      unfold p_X7_distinct_b4
      dsimp only
      rw [hm, ck_w (by omega), ck_w (by omega)]
      refine ok_ite (fun c => ?_) (fun c => ?_)
      · have hp := hs.1.2 i hi.1 c
        have hr := hx.2.1 _ hp.1 hp.2
        have hnr := near_nn hx hs ⟨hi.1, c⟩
        rw [ix_of (by omega), e_rest (Or.inl rfl) h hp, so_bd]
        refine ok_so ⟨⟨by dsimp only; omega, ?_⟩, by dsimp only; omega⟩
        dsimp only
        rw [sm_s hi.1, hf]
        congr 1
        rw [diff_sum (a := s.near i) (b := x.R (s.sorted i)) (by omega) (by omega) (by omega)]
        refine sm_cg (fun l l0 l1 => ?_)
        unfold gN
        rw [ind_t (P := ∀ q, 0 ≤ q → q < y.n → ¬ Sm x (s.sorted i) y q l) (fun q a b => by omega), Int.mul_one]
      · have e1 : i = x.n := by omega
        subst e1
        exact ok_so hf
    · exact ⟨by dsimp only; omega, by dsimp only; rw [sm_0 (Int.le_refl 0)]⟩
    · dsimp only; omega
  rw [ok_eq this, so_bd]
