/-! step, occurs, end, matches, parts -/
section KG
variable {n : Nat} {H : HisS} {V : MvS} {pr : Int} {T Q U W : TxtS} {C : ClsS} {K S R : SwpS} {m : MtS} {s : MsS} {c : McS} {P : PadS} {M : MpS}
theorem e_isLetter {v : Int} (hv : InR v) : p_X6_isLetter v = some (if 0 ≤ v ∧ v ≤ 7 then 1 else 0) := by
  unfold InR at hv
  unfold p_X6_isLetter
  rw [ck_w hv]
  by_cases a : v < 0
  · rw [if_pos a, if_neg (by omega)]
  · by_cases b : v < 8
    · rw [if_neg a, if_pos b, if_pos (by omega)]
    · rw [if_neg a, if_neg b, if_neg (by omega)]
theorem s_step (hn : 1000 ≤ n) (h : HR H V pr) (hT : TxI H T) (hC : ClI H C) {v1 v2 : Int} (h1 : InR v1) (h2 : InR v2) : Sim (p_X6_step n pr H T C K v1 v2) (p_X7_step n V m c v1 v2) (fun r s => r.1 = s.1 ∧ TxI H r.2.1 ∧ ClI H r.2.2.1) := by
  unfold p_X6_step p_X7_step
  refine sim_l (e_showC hn h hT hC) ?_
  rintro ⟨T', C', K'⟩ ⟨q1, q2, q3, q4, q5⟩
  refine sim_r (e_isClass hn h h1) ?_
  rintro ⟨b, m', c'⟩ ⟨w1, w2, w3⟩
  dsimp only at q1 q2 q3 q4 q5 w1 w2 w3 ⊢
  have hx := q1.2
  have nn := hx.1
  have two := Two_of hx q3 w3
  obtain ⟨_, _, t3, t4⟩ := id two
  have most := Cls_most hx q3
  have hh1 := h1
  unfold InR at h1
  have core : ∀ e l, ((v1 = -1 ∧ l = 0 ∧ e = 0) ∨ ((0 ≤ v1 ∧ v1 < c'.classes) ∧ e = c'.classLast v1 ∧ l = c'.classLong v1)) → p_X1_longestIn C' v1 = some l → p_X1_firstEndOf C' v1 = some e → Sim (p_X6_step_j22 n T' C' K' v1 v2) (p_X7_step_j15 n m' c' v1 v2) (fun r s => r.1 = s.1 ∧ TxI H r.2.1 ∧ ClI H r.2.2.1) := by
    intro e l hv el ee
    unfold p_X6_step_j22 p_X7_step_j15
    rw [e_isLetter h2, so_bd, e_in h2 (by decide) (by decide), so_bd]
    by_cases g : 0 ≤ v2 ∧ v2 ≤ 7
    · rw [if_pos g]
      simp (disch := omega) only [ck_w, if_neg]
      have hl : (0 ≤ l ∧ l ≤ 60) ∧ (0 < l → (0 ≤ e ∧ e < (nb (ct H pr)).n) ∧ l ≤ (nb (ct H pr)).P e + 1) ∧ (0 ≤ e ∧ (e < (nb (ct H pr)).n ∨ l = 0 ∧ e = 0)) := by
        rcases hv with w | ⟨u1, u2, u3⟩
        · omega
        · have c1 := (w3.1.2.1 v1 u1.1 u1.2).1
          have k1 := (kn_ok hx (c'.classLast v1)).1
          have c11 := c1.1
          have c12 := c1.2.1
          have p1 := P_in hx (c'.classLast v1)
          rw [u2, u3]
          omega
      have mid : Ok (if v1 = -1 then p_X7_step_j43 n m' c' v1 v2 0 else ix v1 200 (p_X7_step_j43 n m' c' v1 v2 (c'.classLong v1))) (fun r => (∃ z, Nxt (nb (ct H pr)) e l v2 z ∧ (∀ y, 0 ≤ y → y < z → ¬ Nxt (nb (ct H pr)) e l v2 y) ∧ Cl (nb (ct H pr)) c'.classes c'.classLast c'.classShort c'.classLong z (l + 1) r.1) ∨ (r.1 = -6 ∧ ∀ y, ¬ Nxt (nb (ct H pr)) e l v2 y)) := by
        have go : Ok (p_X7_step_j43 n m' c' v1 v2 l) (fun r => (∃ z, Nxt (nb (ct H pr)) e l v2 z ∧ (∀ y, 0 ≤ y → y < z → ¬ Nxt (nb (ct H pr)) e l v2 y) ∧ Cl (nb (ct H pr)) c'.classes c'.classLast c'.classShort c'.classLong z (l + 1) r.1) ∨ (r.1 = -6 ∧ ∀ y, ¬ Nxt (nb (ct H pr)) e l v2 y)) := by
          unfold p_X7_step_j43
          refine ok_bd (e_mstep hn w2 w3 (v := v1) (e := e) (l := l) g (by
            rcases hv with w | w
            · exact Or.inl ⟨w.1, w.2.1⟩
            · exact Or.inr w)) ?_
          rintro r (⟨z, k, z1, z2, rfl, z4⟩ | ⟨rfl, z1⟩)
          · exact ok_so (Or.inl ⟨z, z1, z2, z4⟩)
          · exact ok_so (Or.inr ⟨rfl, z1⟩)
        by_cases w : v1 = -1
        · rw [if_pos w]
          have : l = 0 := by omega
          rw [this] at go ⊢
          exact go
        · rw [if_neg w]
          have w4 := w3.2.2
          obtain ⟨u1, u2, u3⟩ := hv.resolve_left (fun q => w q.1)
          rw [ix_of (by omega), ← u3]; exact go
      refine sim_ok (P := fun r => ((∃ z, Nxt (nb (ct H pr)) e l v2 z ∧ (∀ y, 0 ≤ y → y < z → ¬ Nxt (nb (ct H pr)) e l v2 y) ∧ r.1 = C'.classOf z (l + 1)) ∨ (r.1 = -6 ∧ ∀ y, ¬ Nxt (nb (ct H pr)) e l v2 y)) ∧ r.2.1 = T' ∧ r.2.2.1 = C') ?_ mid ?_
      · unfold p_X1_classAfter
        rw [el, so_bd, ee, so_bd]
        by_cases x0 : (nb (ct H pr)).n = 0 ∧ l = 0
        · have lpz : lp (p_X1_classAfter_b19 n C' T' v2 l (e + 1)) n 0 = some (.inr ()) := by
            rw [show n = (n - 1) + 1 by omega]
            refine lp_en ?_
            unfold p_X1_classAfter_b19
            rw [e_lengthT q1, so_bd, ck_w (by omega), ck_w (by omega), if_neg (by omega)]
          rw [lpz]
          exact ok_so ⟨Or.inr ⟨rfl, fun y w => by have := w.1; omega⟩, rfl, rfl⟩
        · obtain ⟨r, r1, r2⟩ := e_classAfter hn q1 (C := C') (e := e) (l := l) (g := v2) g (fun q => (hl.2.1 q).1) (by omega) (fun q => (hl.2.1 q).2) hl.1
          rw [r1]
          rcases r2 with ⟨z, z1, z2, rfl⟩ | ⟨rfl, z1⟩
          · exact ok_so ⟨Or.inl ⟨z, z1, z2, rfl⟩, rfl, rfl⟩
          · exact ok_so ⟨Or.inr ⟨rfl, z1⟩, rfl, rfl⟩
      · rintro ⟨r1, r2, r3, r4⟩ ⟨s1, s2, s3⟩ ⟨a, a2, a3⟩ b
        dsimp only at a a2 a3 b ⊢
        rw [a2, a3]
        refine ⟨?_, q2, q4⟩
        rcases a with ⟨z, z1, z2, z3⟩ | ⟨z1, z2⟩
        · rcases b with ⟨y, y1, y2, y3⟩ | ⟨_, y1⟩
          · have ey : z = y := by
              by_cases u : z < y
              · exact absurd z1 (y2 z z1.1.1 u)
              · by_cases u2 : y < z
                · exact absurd y1 (z2 y y1.1.1 u2)
                · omega
            rw [z3]
            rw [← ey] at y3
            refine Two_un hx two (by omega) (q3.1.2.2.2.2 z (l + 1) z1.1.1 z1.1.2 (by omega) (by have := z1.2.2.1; omega) (Or.inl z1.1.2)) y3
          · exact absurd z1 (y1 z)
        · rcases b with ⟨y, y1, y2, y3⟩ | ⟨y1, _⟩
          · exact absurd y1 (z2 y)
          · rw [z1, y1]
    · rw [if_neg g, ck_w (by omega), if_pos rfl, ck_w (by omega), if_pos rfl]
      exact sim_so ⟨rfl, q2, q4⟩
  by_cases g : 0 ≤ v1 ∧ v1 < c'.classes
  · obtain ⟨a1, a2, a3, a4, a5, a6, a7⟩ := e_parts1 q3 most (v := v1) (by omega)
    obtain ⟨u1, u2, u3⟩ := t4 v1 g.1 g.2
    rw [ck_w (by omega), if_neg (by omega), e_hasC q3 most hh1, so_bd, w1, t3, if_pos g, ck_w (by omega), if_neg (by omega), ck_w (by omega), if_neg (by omega)]
    exact core (C'.firstEnds v1) (C'.longest v1) (Or.inr ⟨g, u1, u3⟩) a1 a7
  · by_cases g2 : v1 = -1
    · have eh := e_hasC q3 most hh1
      rw [if_neg (by omega)] at eh
      rw [ck_w (by omega), if_pos g2, w1, if_neg g, ck_w (by omega), if_pos rfl, ck_w (by omega), if_pos g2]
      refine core 0 0 (Or.inl ⟨g2, rfl, rfl⟩) ?_ ?_
      · unfold p_X1_longestIn
        rw [eh, so_bd, ck_w (by omega), if_pos rfl]
      · unfold p_X1_firstEndOf
        rw [eh, so_bd, ck_w (by omega), if_pos rfl]
    · rw [ck_w (by omega), if_neg g2, e_hasC q3 most hh1, so_bd, w1, t3, if_neg g, ck_w (by omega), if_pos rfl, ck_w (by omega), if_pos rfl, ck_w (by omega), if_neg g2]
      exact sim_so ⟨rfl, q2, q4⟩
theorem s_end (hn : 1000 ≤ n) (h : HR H V pr) (hP : PR P M) (hT : TxI H T) {v1 : Int} (h1 : InR v1) : Sim (p_X6_end n pr H P T Q v1) (p_X7_end n V M m v1) (fun r s => r.1 = s.1 ∧ TxI H r.2.1) := by
  unfold p_X6_end p_X7_end
  rcases s_read hn (Q := Q) hP with ⟨Q', e1, e2, hp, e4, e5⟩ | ⟨e1, e2⟩
  · rw [e1, e2, so_bd, so_bd]
    simp (disch := omega) only [ck_w, if_neg]
    refine sim_l (e_show hn h hT) ?_
    rintro T' ⟨t1, t2, t3, _⟩
    refine sim_r (e_layP hn h) ?_
    rintro m' ⟨m1, _⟩
    have hx := t1.2
    have nn := hx.1
    obtain ⟨pn, pr1, pr2⟩ := pm_r hp
    have hp1 := hp.1
    obtain ⟨r, r1, r2⟩ := e_endNumber hn t1 e4 (by omega) ⟨pr1, pr2⟩ h1
    rw [r1, so_bd]
    refine sim_r (e_mend hn m1 hP hp h1) ?_
    intro z hz
    rcases r2 with ⟨p, p1, p2, p3, p4⟩ | ⟨p1, p2⟩
    · rcases hz with ⟨q, z1, z2, z3, rfl⟩ | ⟨rfl, z1⟩
      · have pq : p = q := cA_un p1.1 z1.1 p2 z2 (by omega)
        rw [ck_w (by omega), if_neg (by omega)]
        unfold p_X5_placeCode
        rw [e_wordAt t1 (by unfold InR; omega), so_bd, e_placeAt t1 (by unfold InR; omega), so_bd, so_bd]
        refine sim_so ⟨?_, t3⟩
        dsimp only
        rw [p4, pq, pn]
      · exact absurd p3 (z1 p p1.1 (by omega) p2)
    · rcases hz with ⟨q, z1, z2, z3, rfl⟩ | ⟨rfl, z1⟩
      · exact absurd z3 (p2 q z1.1 (by omega) z2)
      · rw [ck_w (by omega), if_pos p1]
        exact sim_so ⟨rfl, t3⟩
  · rw [e1, e2, so_bd, so_bd, ck_w (by omega), if_pos rfl, ck_w (by omega), if_pos rfl]
    exact sim_so ⟨rfl, hT⟩
theorem s_matches (hn : 1000 ≤ n) (h : HR H V pr) (hP : PR P M) (hT : TxI H T) {v1 : Int} (h1 : InR v1) : Sim (p_X6_matches n pr H P T Q S v1) (p_X7_matches n V M m v1) (fun r s => r.1 = s.1 ∧ TxI H r.2.1) := by
  unfold p_X6_matches p_X7_matches
  have hh := h1
  unfold InR at h1
  rcases s_read hn (Q := Q) hP with ⟨Q', e1, e2, hp, e4, e5⟩ | ⟨e1, e2⟩
  · have hp1 := hp.1
    have hs : M.padMany = P.size := hP.1
    have pn : (pm P).n = P.size := rfl
    rw [e1, e2, so_bd, so_bd]
    simp (disch := omega) only [ck_w, if_neg]
    rw [hs, e_in hh (by decide) (by unfold InR; omega), so_bd, e_lengthT e4, so_bd]
    by_cases g : 1 ≤ v1 ∧ v1 ≤ P.size
    · rw [if_pos g, if_neg (by omega), ck_w (by omega), if_neg (by omega), ck_w (by omega), if_neg (by omega)]
      refine sim_l (e_show hn h hT) ?_
      rintro T' ⟨t1, t2, t3, _⟩
      refine sim_r (e_layP hn h) ?_
      rintro m' ⟨m1, _⟩
      refine sim_l (e_matches hn t1 e4 hp g) ?_
      rintro r ⟨r1, r2⟩
      rw [e_mmatches hn m1 hP hp g r1 r2, so_bd]
      exact sim_so ⟨rfl, t3⟩
    · rw [if_neg g, ck_w (by omega), if_pos rfl]
      by_cases a : v1 < 1
      · rw [if_pos a]
        exact sim_so ⟨rfl, hT⟩
      · rw [if_neg a, ck_w (by omega), if_pos (by omega)]
        exact sim_so ⟨rfl, hT⟩
  · rw [e1, e2, so_bd, so_bd, ck_w (by omega), if_pos rfl, ck_w (by omega), if_pos rfl]
    exact sim_so ⟨rfl, hT⟩
theorem s_parts (hn : 1000 ≤ n) (h : HR H V pr) (hP : PR P M) (hT : TxI H T) : Sim (p_X6_parts n pr H P T Q S) (p_X7_parts n V M m) (fun r s => r.1 = s.1 ∧ TxI H r.2.1) := by
  unfold p_X6_parts p_X7_parts
  rcases s_read hn (Q := Q) hP with ⟨Q', e1, e2, hp, e4, e5⟩ | ⟨e1, e2⟩
  · rw [e1, e2, so_bd, so_bd]
    simp (disch := omega) only [ck_w, if_neg]
    refine sim_l (e_show hn h hT) ?_
    rintro T' ⟨t1, t2, t3, _⟩
    refine sim_r (e_layP hn h) ?_
    rintro m' ⟨m1, _⟩
    refine sim_l (e_parts hn (S := S) t1 e4 hp m1 hP) ?_
    rintro (⟨a, b, d, e⟩ | ⟨a, b⟩) q
    · obtain ⟨q1, q2, q3, q4⟩ := q
      dsimp only at q1 q2 q3
      rw [q4, so_bd]
      refine sim_so ⟨q1, ?_⟩
      dsimp only
      rw [q2]; exact t3
    · obtain ⟨q1, q4⟩ := q
      rw [q4, so_bd]
      exact sim_so ⟨rfl, t3⟩
  · rw [e1, e2, so_bd, so_bd, ck_w (by omega), if_pos rfl, ck_w (by omega), if_pos rfl]
    exact sim_so ⟨rfl, hT⟩
end KG
