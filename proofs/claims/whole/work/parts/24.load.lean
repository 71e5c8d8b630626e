theorem e_characterAt {P : PadS} {i : Int} (h : 0 ≤ i ∧ i < P.size) (hs : P.size ≤ 60) : p_X3_characterAt P i = some (P.characters i) := by
  unfold p_X3_characterAt
  simp (disch := omega) only [ck_w, ix_of, ite_true, ite_false, if_pos, if_neg]
/-- what one letter or slash adds -/
theorem HR_step {H : HisS} {V : MvS} {pr st : Int} (h : HR H V pr) (hs : H.size < 400) (hst : -1 ≤ st ∧ st ≤ 7) (hw : st = -1 → H.wordCounts pr < 6) (hl : st ≠ -1 → H.letterCounts pr < 60 ∧ 1 ≤ H.wordCounts pr) :
    p_X2_grow H pr st = some (H.size, gr H pr st) ∧ p_X7_make V st = some (H.size, grV V st) ∧ HR (gr H pr st) (grV V st) H.size ∧ Ext H (gr H pr st) ∧ (gr H pr st).size = H.size + 1 ∧ (gr H pr st).wordCounts H.size = H.wordCounts pr + (if st = -1 then 1 else 0) ∧ (gr H pr st).letterCounts H.size = H.letterCounts pr + (if st = -1 then 0 else 1) := by
  obtain ⟨h1, h2, h3, h4, h5⟩ := id h
  have hs1 := h1.1
  have hvv := h2.1
  refine ⟨e_grow (by omega) ⟨h4, h5⟩ hst, ?_, HR_gr h hs hst hw hl, Ext_gr H pr st, rfl, ?_, ?_⟩
  · rw [e_make (by omega) (by omega) hst, hvv]
  · show up H.wordCounts H.size _ H.size = _
    rw [up_s]
  · show up H.letterCounts H.size _ H.size = _
    rw [up_s]
theorem s_load {n : Nat} (hn : 1000 ≤ n) {H : HisS} {V : MvS} {pr : Int} {P : PadS} {M : MpS} (h : HR H V pr) (hp : PR P M) : ∃ r H' V' pr' P' M', p_X6_load n pr H P = some (r, pr', H', P') ∧ p_X7_load n V M = some (r, V', M') ∧ HR H' V' pr' ∧ PR P' M' ∧ Ext H H' := by
  obtain ⟨h1, h2, h3, h4, h5⟩ := id h
  obtain ⟨p1, p2, p3⟩ := id hp
  have hs := h1.1
  have hvv := h2.1
  have hb := h1.2.2.1 pr h4 h5
  have hv := h2.2.2.1 pr h4 h5
  have e0 : p_X2_wordsIn H pr = some (H.wordCounts pr) := e_wordsIn hs ⟨h4, h5⟩
  have e1 : p_X2_lettersIn H pr = some (H.letterCounts pr) := e_lettersIn hs ⟨h4, h5⟩
  obtain ⟨f, f1, f2, f3, f4, f5⟩ := s_fw hn hp
  obtain ⟨sl1, sl2⟩ := s_slashes hn hp
  have sl3 := slN_le (P := P) p2.1
  unfold p_X6_load p_X7_load p_X3_size
  by_cases a : f = -6
  · have f6 := f5 a
    subst a
    -- the part behind the checks of the first sign
    have key : (0 < P.size → P.characters 0 = 47 ∨ H.wordCounts pr ≠ 0) → ∃ r H' V' pr' P' M', p_X6_load_j67 n pr H P P.size (slN P P.size) (H.wordCounts pr) = some (r, pr', H', P') ∧ p_X7_load_j46 n V M = some (r, V', M') ∧ HR H' V' pr' ∧ PR P' M' ∧ Ext H H' := by
      intro hc0
      have e9 := e_roomFor (H := H) (k := P.size) (by omega) hs
      unfold p_X6_load_j67 p_X7_load_j46
      by_cases b : 6 < H.wordCounts pr + slN P P.size
      · exact ⟨-4, H, V, pr, P, M, by simp (disch := omega) only [e1, so_bd, ck_w, ite_true, ite_false, if_pos, if_neg], by simp (disch := omega) only [sl2, h3, hv.1, so_bd, ck_w, ix_of, ite_true, ite_false, if_pos, if_neg], h, hp, Ext_rf H⟩
      · by_cases c : 60 < H.letterCounts pr + P.size - slN P P.size
        · exact ⟨-4, H, V, pr, P, M, by simp (disch := omega) only [e1, so_bd, ck_w, ite_true, ite_false, if_pos, if_neg], by simp (disch := omega) only [sl2, h3, hv.1, hv.2, p1, so_bd, ck_w, ix_of, ite_true, ite_false, if_pos, if_neg], h, hp, Ext_rf H⟩
        · by_cases d : 400 < H.size + P.size
          · exact ⟨-4, H, V, pr, P, M, by simp (disch := omega) only [e1, e9, so_bd, ck_w, ite_true, ite_false, if_pos, if_neg], by simp (disch := omega) only [sl2, h3, hv.1, hv.2, hvv, p1, so_bd, ck_w, ix_of, ite_true, ite_false, if_pos, if_neg], h, hp, Ext_rf H⟩
          · have hl : ∃ r r', lp (p_X6_load_b116 n P P.size) n (0, pr, H) = some r ∧ lp (p_X7_load_b140 n M) n (0, V) = some r' ∧ (HR r.2 r' r.1 ∧ Ext H r.2) := by
              refine lp_sim (b1 := p_X6_load_b116 n P P.size) (b2 := p_X7_load_b140 n M) (fun z w => w.1 = z.1 ∧ HR z.2.2 w.2 z.2.1 ∧ Ext H z.2.2 ∧ 0 ≤ z.1 ∧ z.1 ≤ P.size ∧ z.2.2.wordCounts z.2.1 + (slN P P.size - slN P z.1) ≤ 6 ∧ z.2.2.letterCounts z.2.1 + (P.size - z.1) - (slN P P.size - slN P z.1) ≤ 60 ∧ z.2.2.size + (P.size - z.1) ≤ 400 ∧ (1 ≤ z.2.2.wordCounts z.2.1 ∨ (z.1 = 0 ∧ (0 < P.size → P.characters 0 = 47)))) _ (fun z => P.size - z.1) ?_ n n (0, pr, H) (0, V) ?_ (by show P.size - 0 < n; omega) (by show P.size - 0 < n; omega) (by omega) (by omega)
              · rintro ⟨i, q, G⟩ ⟨i2, U⟩ ⟨rfl, g1, g2, g3, g4, g5, g6, g7, g8⟩
                dsimp only at g1 g2 g3 g4 g5 g6 g7 g8 ⊢
                unfold p_X6_load_b116 p_X7_load_b140 p_X6_load_j158 p_X7_load_j173
                dsimp only
                by_cases u : i2 < P.size
                · have hc := p3 i2 g3 u
                  have e5 := e_characterAt (P := P) (i := i2) ⟨g3, u⟩ p2.2
                  have hsl := slN_s (P := P) g3
                  have hmo := slN_mono (P := P) (a := i2 + 1) (b := P.size) (by omega) (by omega)
                  have gb := g1.1.2.2.1 q g1.2.2.2.1 g1.2.2.2.2
                  have gs := g1.1.1
                  by_cases k : P.characters i2 = 47
                  · rw [ind_t k] at hsl
                    obtain ⟨t1, t2, t3, t4, t5, t6, t7⟩ := HR_step g1 (st := -1) (by omega) (by omega) (fun _ => by omega) (fun q => absurd rfl q)
                    rw [if_pos rfl] at t6 t7
                    refine Or.inl ⟨(i2 + 1, G.size, gr G q (-1)), (i2 + 1, grV U (-1)), by simp (disch := omega) only [e5, t1, so_bd, ck_w, ix_of, ite_true, ite_false, if_pos, if_neg], by simp (disch := omega) only [p1, hc.1, t2, so_bd, ck_w, ix_of, ite_true, ite_false, if_pos, if_neg], ⟨rfl, t3, Ext_tr g2 t4, ?_⟩, by show P.size - (i2 + 1) < P.size - i2; omega, by show 0 < P.size - i2; omega⟩
                    dsimp only
                    rw [t5, t6, t7]
                    refine ⟨by omega, by omega, by omega, by omega, by omega, Or.inl (by omega)⟩
                  · rw [ind_f k] at hsl
                    have hlt := f6 i2 g3 u
                    have hne : P.characters i2 - 97 ≠ -1 := by omega
                    have hw1 : 1 ≤ G.wordCounts q := by
                      rcases g8 with g8 | ⟨g8, g9⟩
                      · exact g8
                      · subst g8; exact absurd (g9 u) k
                    obtain ⟨t1, t2, t3, t4, t5, t6, t7⟩ := HR_step g1 (st := P.characters i2 - 97) (by omega) (by omega) (fun q => absurd q hne) (fun _ => ⟨by omega, hw1⟩)
                    rw [if_neg hne] at t6 t7
                    refine Or.inl ⟨(i2 + 1, G.size, gr G q (P.characters i2 - 97)), (i2 + 1, grV U (P.characters i2 - 97)), by simp (disch := omega) only [e5, t1, so_bd, ck_w, ix_of, ite_true, ite_false, if_pos, if_neg], by simp (disch := omega) only [p1, hc.1, t2, so_bd, ck_w, ix_of, ite_true, ite_false, if_pos, if_neg], ⟨rfl, t3, Ext_tr g2 t4, ?_⟩, by show P.size - (i2 + 1) < P.size - i2; omega, by show 0 < P.size - i2; omega⟩
                    dsimp only
                    rw [t5, t6, t7]
                    refine ⟨by omega, by omega, by omega, by omega, by omega, Or.inl (by omega)⟩
                · refine Or.inr ⟨(q, G), U, by simp (disch := omega) only [ck_w, ite_true, ite_false, if_pos, if_neg], by simp (disch := omega) only [p1, ck_w, ite_true, ite_false, if_pos, if_neg], g1, g2⟩
              · refine ⟨rfl, h, Ext_rf H, by dsimp only; omega, by dsimp only; omega, ?_⟩
                dsimp only
                rw [slN_0]
                refine ⟨by omega, by omega, by omega, ?_⟩
                by_cases k : H.wordCounts pr = 0
                · exact Or.inr ⟨rfl, fun q => (hc0 q).elim id (fun r => absurd k r)⟩
                · exact Or.inl (by omega)
            obtain ⟨r, r', l1, l2, l3, l4⟩ := hl
            refine ⟨r.1, r.2, r', r.1, (P.characters, 0), (M.pad, 0), ?_, ?_, l3, PR_0, l4⟩
            · simp (disch := omega) only [e1, e9, l1, so_bd, ck_w, ite_true, ite_false, if_pos, if_neg]
              rfl
            · simp (disch := omega) only [sl2, h3, hv.1, hv.2, hvv, p1, l2, so_bd, ck_w, ix_of, ite_true, ite_false, if_pos, if_neg]
              rw [l3.2.2.1]
    by_cases b : 0 < P.size
    · have hc := p3 0 (by omega) b
      have e5 := e_characterAt (P := P) (i := 0) ⟨by omega, b⟩ p2.2
      by_cases c : H.wordCounts pr = 0
      · by_cases d : P.characters 0 = 47
        · obtain ⟨r, H', V', pr', P', M', k1, k2, k3⟩ := key (fun _ => Or.inl d)
          exact ⟨r, H', V', pr', P', M', by simp (disch := omega) only [f1, sl1, e0, e5, k1, so_bd, ck_w, ite_true, ite_false, if_pos, if_neg], by simp (disch := omega) only [f2, p1, hc.1, k2, so_bd, ck_w, ite_true, ite_false, if_pos, if_neg], k3⟩
        · exact ⟨-5, H, V, pr, P, M, by simp (disch := omega) only [f1, sl1, e0, e5, so_bd, ck_w, ite_true, ite_false, if_pos, if_neg], by simp (disch := omega) only [f2, p1, hc.1, h3, hv.1, so_bd, ck_w, ix_of, ite_true, ite_false, if_pos, if_neg], h, hp, Ext_rf H⟩
      · obtain ⟨r, H', V', pr', P', M', k1, k2, k3⟩ := key (fun _ => Or.inr c)
        by_cases d : P.characters 0 = 47
        · exact ⟨r, H', V', pr', P', M', by simp (disch := omega) only [f1, sl1, e0, e5, k1, so_bd, ck_w, ite_true, ite_false, if_pos, if_neg], by simp (disch := omega) only [f2, p1, hc.1, k2, so_bd, ck_w, ite_true, ite_false, if_pos, if_neg], k3⟩
        · exact ⟨r, H', V', pr', P', M', by simp (disch := omega) only [f1, sl1, e0, e5, k1, so_bd, ck_w, ite_true, ite_false, if_pos, if_neg], by simp (disch := omega) only [f2, p1, hc.1, h3, hv.1, k2, so_bd, ck_w, ix_of, ite_true, ite_false, if_pos, if_neg], k3⟩
    · obtain ⟨r, H', V', pr', P', M', k1, k2, k3⟩ := key (fun q => absurd q b)
      exact ⟨r, H', V', pr', P', M', by simp (disch := omega) only [f1, sl1, e0, k1, so_bd, ck_w, ite_true, ite_false, if_pos, if_neg], by simp (disch := omega) only [f2, p1, k2, so_bd, ck_w, ite_true, ite_false, if_pos, if_neg], k3⟩
  · exact ⟨-3, H, V, pr, P, M, by simp (disch := omega) only [f1, so_bd, ck_w, ite_true, ite_false, if_pos, if_neg], by simp (disch := omega) only [f2, so_bd, ck_w, ite_true, ite_false, if_pos, if_neg], h, hp, Ext_rf H⟩
