/-! occurs, version, more, letter -/
section KH
variable {n : Nat} {H : HisS} {V : MvS} {pr : Int} {T Q U W : TxtS} {C : ClsS} {K S R : SwpS} {m : MtS} {s : MsS} {c : McS} {P : PadS} {M : MpS}
theorem e_clsP (hn : 1000 ≤ n) (h : HR H V pr) (t1 : TX (nb (ct H pr)) T) (t2 : T.version = pr) (hC : ClI H C) : Ok (p_X1_refresh n C K T) (fun r => ClsOk (nb (ct H pr)) r.1 ∧ ClI H r.1) := by
  have hw : 0 ≤ pr ∧ pr < H.size := h.2.2.2
  have hH := h.1.1
  have c1 := hC.1
  refine ok_mono (e_clsR hn t1 (C := C) (S := K) (by unfold InR; omega) (by unfold InR; omega) (fun q => ?_)) ?_
  · have := hC.2 (by omega)
    rw [q, t2] at this; exact this
  · rintro ⟨C', K'⟩ ⟨q1, q2⟩
    dsimp only at q1 q2 ⊢
    exact ⟨q1, by omega, fun _ => by rw [q2, t2]; exact q1⟩
theorem s_occurs (hn : 1000 ≤ n) (h : HR H V pr) (hP : PR P M) (hT : TxI H T) (hC : ClI H C) {v1 : Int} (h1 : InR v1) : Sim (p_X6_occurs n pr H P T C K Q v1) (p_X7_occurs n V M m c v1) (fun r s => r.1 = s.1 ∧ TxI H r.2.1 ∧ ClI H r.2.2.1) := by
  unfold p_X6_occurs p_X7_occurs
  rw [e_in h1 (by decide) (by decide), so_bd]
  have hh := h1
  unfold InR at h1
  rw [ck_w h1]
  by_cases g : 0 ≤ v1 ∧ v1 ≤ 3
  · rw [if_pos g, if_neg (by omega), if_neg (by omega), ck_w (by omega), if_neg (by omega)]
    rcases s_read hn (Q := Q) hP with ⟨Q', e1, e2, hp, e4, e5⟩ | ⟨e1, e2⟩
    · rw [e1, e2, so_bd, so_bd]
      have hs : M.padMany = P.size := hP.1
      have hp1 := hp.1
      obtain ⟨pn, pr1, pr2⟩ := pm_r hp
      rw [ck_w (by show -2147483648 ≤ (1 : Int) ∧ (1 : Int) < 2147483648; omega), if_neg (by show ¬ (1 : Int) = 0; omega), ck_w (by omega), if_neg (by omega)]
      refine sim_l (e_show hn h hT) ?_
      rintro T' ⟨t1, t2, t3, _⟩
      refine sim_r (e_layP hn h) ?_
      rintro m' ⟨m1, _⟩
      have hx := t1.2
      have nn := hx.1
      have hm : m'.many 0 = (nb (ct H pr)).n := m1.2.1
      rw [hm]
      refine sim_r (e_moccurs hn m1 hP hp) ?_
      rintro ⟨r1, r2, r3⟩ ⟨z1, z2, z3⟩
      dsimp only at z1 z2 z3 ⊢
      rw [ck_w (by omega)]
      by_cases c0 : v1 = 0
      · rw [if_pos c0, if_pos c0, e_endsOf hn t1 e4 (by omega) ⟨pr1, pr2⟩, so_bd]
        exact sim_so ⟨z1.symm, t3, hC⟩
      by_cases c1 : v1 = 1
      · rw [if_neg c0, if_neg c0, if_pos c1, if_pos c1]
        refine sim_l (e_wordsWith hn t1 e4 (by omega) ⟨pr1, pr2⟩) (fun r hr => sim_so ⟨?_, t3, hC⟩)
        dsimp only
        refine WSet_un hr z2 (fun p p0 p1 => ⟨fun a => ?_, fun a => ?_⟩)
        · have b := At_in hx (by omega) a
          refine ⟨p - (pm P).n + 1, by omega, a, ?_⟩
          rw [← b.2.2.1, show p - (pm P).n + 1 + (pm P).n - 1 = p by omega]
        · have b := At_in hx (by omega) a
          refine ⟨p + (pm P).n - 1, by omega, ?_, b.2.2.1⟩
          rw [show p + (pm P).n - 1 - (pm P).n + 1 = p by omega]; exact a
      by_cases c2 : v1 = 2
      · rw [if_neg c0, if_neg c0, if_neg c1, if_neg c1, if_pos c2, if_pos c2]
        unfold p_X6_classOfPattern
        obtain ⟨r, w1, w2⟩ := e_endNumber hn t1 e4 (by omega) ⟨pr1, pr2⟩ (v := 0) (by decide)
        rw [w1, so_bd]
        refine sim_r (e_layC hn m1 c) ?_
        intro c' hc'
        have first : ∀ p, At (nb (ct H pr)) (pm P) p → ∃ q, (0 ≤ q ∧ q < (nb (ct H pr)).n) ∧ At (nb (ct H pr)) (pm P) q ∧ cA (nb (ct H pr)) (pm P) q = 0 := by
          intro p a
          have b := At_in hx (by omega) a
          obtain ⟨q, q1, q2, q3⟩ := least (P := At (nb (ct H pr)) (pm P)) p b.1 a
          have b2 := At_in hx (by omega) q2
          exact ⟨q, by omega, q2, sm_zero (fun i u v => ind_f (q3 i u v))⟩
        rcases w2 with ⟨p, p1, p2, p3, p4⟩ | ⟨p1, p2⟩
        · rcases z3 with ⟨y1, y2⟩ | ⟨y1, y2, y3⟩
          · exact absurd p2 (y2 p)
          · have pq : p = r3 := by
              have := sm_zero (f := fun i => ind (At (nb (ct H pr)) (pm P) i)) (n := r3) (fun i u v => ind_f (y3 i v))
              exact cA_un p1.1 y1.1 p2 y2 (by rw [p3]; exact this.symm)
            rw [ck_w (by omega), if_neg (by omega), ck_w (by omega), if_neg (by omega), hs]
            have s1 := p2.1
            have rp := R_P hx (p := p) (l := (pm P).n) ⟨by omega, s1⟩
            refine sim_r (e_mclassAt hn m1 hc' (p := r3) (l := P.size) (by rw [← pq]; omega)) ?_
            intro k hk
            rw [show ((p_X1_refresh n C K T').bind fun r8 => (p_X5_length Q').bind fun r10 => (p_X1_classAt r8.1 r r10).bind fun r12 => some (r12, r8.1, r8.2)).bind (fun r34 => some (r34.1, T', r34.2.1, r34.2.2, Q')) = (p_X1_refresh n C K T').bind (fun r8 => ((p_X5_length Q').bind fun r10 => (p_X1_classAt r8.1 r r10).bind fun r12 => some (r12, r8.1, r8.2)).bind (fun r34 => some (r34.1, T', r34.2.1, r34.2.2, Q'))) from Option.bind_assoc _ _ _]
            refine sim_l (e_clsP hn h t1 t2 hC) ?_
            rintro ⟨C', K'⟩ ⟨d1, d2⟩
            dsimp only at d1 d2 ⊢
            rw [e_lengthT e4, so_bd, p4, e_classAt (by omega) (by omega), so_bd, so_bd]
            refine sim_so ⟨?_, t3, d2⟩
            dsimp only
            rw [← pq, ← pn] at hk
            exact Two_un hx (Two_of hx d1 hc') (by omega) (d1.1.2.2.2.2 _ _ rp.2.1.1 rp.2.1.2 (by omega) rp.2.2.2.1 (Or.inl rp.2.1.2)) hk
        · rcases z3 with ⟨y1, y2⟩ | ⟨y1, y2, y3⟩
          · rw [ck_w (by omega), if_pos p1, ck_w (by omega), if_pos (by omega), so_bd]
            exact sim_so ⟨rfl, t3, hC⟩
          · obtain ⟨q, q1, q2, q3⟩ := first _ y2
            exact absurd q3 (p2 q q1.1 q1.2 q2)
      · rw [if_neg c0, if_neg c0, if_neg c1, if_neg c1, if_neg c2, if_neg c2, e_mostApart hn t1 e4 (by omega) ⟨pr1, pr2⟩, so_bd, e_apart hn m1 hP hp, so_bd]
        exact sim_so ⟨rfl, t3, hC⟩
    · rw [e1, e2, so_bd, so_bd, ck_w (by omega), if_pos rfl, ck_w (by omega), if_pos rfl]
      exact sim_so ⟨rfl, hT, hC⟩
  · rw [if_neg g, ck_w (by omega), if_pos rfl]
    by_cases a : v1 < 0
    · rw [if_pos a]
      exact sim_so ⟨rfl, hT, hC⟩
    · rw [if_neg a, if_pos (by omega)]
      exact sim_so ⟨rfl, hT, hC⟩
theorem e_only2 (hn : 1000 ≤ n) (h : HH H) (hU : TxI H U) (hW : TxI H W) {a b : Int} (ha : 0 ≤ a ∧ a < H.size) (hb : 0 ≤ b ∧ b < H.size) : Ok (p_X6_factorsOfOnly n H U W S R a b) (fun r => r.1 = FS (nb (ct H a)) (gN (nb (ct H a)) (nb (ct H b))) ∧ TxI H r.2.1 ∧ TxI H r.2.2.1) := by
  have hH := h.1
  have u1 := hU.1
  have w1 := hW.1
  refine ok_mono (e_only hn h ha hb ⟨by unfold InR; omega, fun q => by have := hU.2 (by omega); rw [q] at this; exact this⟩ ⟨by unfold InR; omega, fun q => by have := hW.2 (by omega); rw [q] at this; exact this⟩) ?_
  rintro r ⟨r1, r2, r3⟩
  exact ⟨r1, TV_I ha r2, TV_I hb r3⟩
theorem s_more (hn : 1000 ≤ n) (h : HR H V pr) (hU : TxI H U) (hW : TxI H W) {v1 v2 : Int} (h1 : InR v1) (h2 : InR v2) : Sim (p_X6_more n H U W S R v1 v2) (p_X7_more n V m s v1 v2) (fun r s => r.1 = s.1 ∧ TxI H r.2.1 ∧ TxI H r.2.2.1) := by
  have hH := h.1
  have hz := hH.1
  have hV := h.2.1
  have vs : V.versions = H.size := hV.1
  unfold p_X6_more p_X7_more
  rw [e_has h1 hz, so_bd, e_isVersion h1 (by omega), so_bd, vs]
  by_cases g : 0 ≤ v1 ∧ v1 < H.size
  · rw [if_pos g, ck_w (by omega), if_neg (by omega), ck_w (by omega), if_neg (by omega), e_has h2 hz, so_bd, e_isVersion h2 (by omega), so_bd, vs]
    by_cases g2 : 0 ≤ v2 ∧ v2 < H.size
    · rw [if_pos g2, ck_w (by omega), if_neg (by omega), ck_w (by omega), if_neg (by omega)]
      refine sim_l (e_only2 hn hH hU hW g g2) ?_
      rintro ⟨r, U', W', S', R'⟩ ⟨r1, r2, r3⟩
      refine sim_r (e_lay hn hH hV (Or.inl rfl) g) ?_
      rintro m1 ⟨a1, a2⟩
      have mx := MX_of (ct_ok hH v1 g.1 g.2) a1
      refine sim_r (e_sort hn mx s) ?_
      intro s' hs'
      refine sim_r (e_lay hn hH hV (Or.inr rfl) g2) ?_
      rintro m2 ⟨b1, b2⟩
      refine sim_r (e_mmore hn (MX_same mx b2) (MX_of (ct_ok hH v2 g2.1 g2.2) b1) hs') ?_
      intro z hz
      exact sim_so ⟨r1.trans hz.symm, r2, r3⟩
    · rw [if_neg g2, ck_w (by omega), if_pos rfl, ck_w (by omega), if_pos rfl]
      exact sim_so ⟨rfl, hU, hW⟩
  · rw [if_neg g, ck_w (by omega), if_pos rfl, ck_w (by omega), if_pos rfl]
    exact sim_so ⟨rfl, hU, hW⟩
theorem s_version (hn : 1000 ≤ n) (h : HR H V pr) (hU : TxI H U) (hW : TxI H W) {v1 v2 : Int} (h1 : InR v1) (h2 : InR v2) : Sim (p_X6_version n H U W S R v1 v2) (p_X7_version n V m s v1 v2) (fun r s => r.1 = s.1 ∧ TxI H r.2.1 ∧ TxI H r.2.2.1) := by
  have hH := h.1
  have hz := hH.1
  have hV := h.2.1
  have vs : V.versions = H.size := hV.1
  unfold p_X6_version p_X7_version
  rw [e_has h1 hz, so_bd, e_isVersion h1 (by omega), so_bd, vs]
  by_cases g : 0 ≤ v1 ∧ v1 < H.size
  · rw [if_pos g]
    have h2' := h2
    unfold InR at h2
    simp (disch := omega) only [ck_w, if_neg]
    by_cases c0 : v2 = 0
    · simp (disch := omega) only [if_pos c0, ix_of]
      by_cases v0 : v1 = 0
      · rw [v0, e_parentOf0 hz, so_bd]
        exact sim_so ⟨hV.2.1.symm, hU, hW⟩
      · rw [e_parentOf hz (by omega), so_bd]
        exact sim_so ⟨(hV.2.2.2 v1 (by omega) g.2).1.symm, hU, hW⟩
    by_cases c1 : v2 = 1
    · obtain ⟨r, r1, r2⟩ := s_children hn hH hV h1
      simp only [if_neg c0, if_pos c1, r1, r2, so_bd]
      exact sim_so ⟨rfl, hU, hW⟩
    by_cases c2 : v2 = 2
    · simp (disch := omega) only [if_neg c0, if_neg c1, if_pos c2, e_wordsIn hz g, so_bd, ix_of]
      exact sim_so ⟨(hV.2.2.1 v1 g.1 g.2).1.symm, hU, hW⟩
    by_cases c3 : v2 = 3
    · simp (disch := omega) only [if_neg c0, if_neg c1, if_neg c2, if_pos c3, e_lettersIn hz g, so_bd, ix_of]
      exact sim_so ⟨(hV.2.2.1 v1 g.1 g.2).2.symm, hU, hW⟩
    by_cases c4 : v2 = 4
    · unfold p_X2_depthOf
      simp only [if_neg c0, if_neg c1, if_neg c2, if_neg c3, if_pos c4, e_wordsIn hz g, e_lettersIn hz g, s_depth hn hH hV g, so_bd]
      exact sim_so ⟨rfl, hU, hW⟩
    by_cases c5 : v2 = 5
    · simp only [if_neg c0, if_neg c1, if_neg c2, if_neg c3, if_neg c4, if_pos c5]
      refine sim_l (e_only2 hn hH hU hW g (b := 0) (by omega)) ?_
      rintro ⟨r, U', W', S', R'⟩ ⟨r1, r2, r3⟩
      refine sim_r (e_lay hn hH hV (Or.inl rfl) g) ?_
      rintro m1 ⟨a1, a2⟩
      have mx := MX_of (ct_ok hH v1 g.1 g.2) a1
      refine sim_r (e_sort hn mx s) ?_
      intro s' hs'
      rw [e_distinct hn mx (y := nb (ct H 0)) rfl hs', so_bd]
      exact sim_so ⟨r1, r2, r3⟩
    · simp only [if_neg c0, if_neg c1, if_neg c2, if_neg c3, if_neg c4, if_neg c5]
      exact sim_so ⟨rfl, hU, hW⟩
  · rw [if_neg g, ck_w (by omega), if_pos rfl, ck_w (by omega), if_pos rfl]
    exact sim_so ⟨rfl, hU, hW⟩
theorem s_letter (hn : 1000 ≤ n) (h : HR H V pr) (hT : TxI H T) {v1 v2 : Int} (h1 : InR v1) (h2 : InR v2) : Sim (p_X6_letter n pr H T v1 v2) (p_X7_letter n V m v1 v2) (fun r s => r.1 = s.1 ∧ TxI H r.2) := by
  have hH := h.1
  have hz := hH.1
  have hV := h.2.1
  have hw : 0 ≤ pr ∧ pr < H.size := h.2.2.2
  have hp := h.2.2.1
  have wm := (hV.2.2.1 pr hw.1 hw.2).1
  have wc := (ct_wc hH pr hw.1 hw.2).1
  have bo := ct_ok hH pr hw.1 hw.2
  have b1 := bo.1
  have b2 := bo.2.1
  unfold p_X6_letter p_X7_letter
  refine sim_l (e_show hn h hT) ?_
  rintro T' ⟨t1, t2, t3, t4⟩
  have tw := t4.2.1
  have hlen := (TX_len t1).1
  have hx := t1.2
  have nn := hx.1
  have hl2 : (nb (ct H pr)).n = (ct H pr).len := rfl
  rw [hp, ix_of (by omega), wm, ← wc, e_in h1 (by decide) (by unfold InR; omega), so_bd]
  have h1' := h1
  have h2' := h2
  unfold InR at h1 h2
  unfold p_X5_wordCount
  rw [ck_w h1, so_bd, tw]
  by_cases g : 0 ≤ v1 ∧ v1 < (ct H pr).wc
  · rw [if_neg (c := v1 < 0) (by omega), ck_w (x := (ct H pr).wc) (by omega), if_pos g.2, if_pos (c := 0 ≤ v1 ∧ v1 ≤ (ct H pr).wc - 1) (by omega), ck_w (x := 1) (by omega), if_neg (c := (1 : Int) = 0) (by omega), e_wordEnd (by omega) (by omega), so_bd, e_wordStart (by omega) (by omega), so_bd]
    refine sim_r (e_layP hn h) ?_
    rintro m' ⟨m1, m2⟩
    have ms := m2.2.2.2 v1 g.1 g.2
    rw [show 6 * (0 : Int) + v1 = v1 by omega] at ms
    have ts := t4.2.2.2 v1 g.1 g.2
    have we : (if v1 + 1 < T'.wordCount then T'.starts (v1 + 1) else T'.length) = wend (ct H pr) v1 := by
      unfold wend
      rw [tw]
      by_cases q : v1 + 1 < (ct H pr).wc
      · rw [if_pos q, if_pos q]; exact t4.2.2.2 (v1 + 1) (by omega) q
      · rw [if_neg q, if_neg q, hlen, hl2]
    have s0 := bo.2.2.2.1 v1 g.1 g.2
    have e0 : (ct H pr).starts v1 ≤ wend (ct H pr) v1 ∧ wend (ct H pr) v1 ≤ (ct H pr).len := by
      unfold wend
      by_cases q : v1 + 1 < (ct H pr).wc
      · rw [if_pos q]
        exact ⟨bo.2.2.2.2.1 v1 (v1 + 1) g.1 (by omega) q, (bo.2.2.2.1 (v1 + 1) (by omega) q).2⟩
      · rw [if_neg q]; omega
    rw [we, ts, ix_of (by omega), ms.1, ms.2, ck_w h2, ck_w h2]
    by_cases c0 : v2 = -1
    · rw [if_pos c0, if_pos c0]
      exact sim_so ⟨rfl, t3⟩
    · rw [if_neg c0, if_neg c0, e_in h2' (by decide) (by unfold InR; omega), so_bd]
      by_cases c1 : 0 ≤ v2 ∧ v2 < wend (ct H pr) v1 - (ct H pr).starts v1
      · rw [if_neg (by omega), ck_w (by omega), if_pos c1.2, so_bd, if_pos (by omega), ck_w (by omega), if_neg (by omega), e_letterAt t1 (by unfold InR; omega), so_bd, e_mletterAt m1 (by omega), so_bd]
        exact sim_so ⟨rfl, t3⟩
      · rw [if_neg (c := 0 ≤ v2 ∧ v2 ≤ _) (by omega), so_bd, ck_w (x := 0) (by omega), if_pos rfl]
        by_cases c2 : v2 < 0
        · rw [if_pos c2]
          exact sim_so ⟨rfl, t3⟩
        · rw [if_neg c2, ck_w (by omega), if_neg (by omega)]
          exact sim_so ⟨rfl, t3⟩
  · rw [if_neg (c := 0 ≤ v1 ∧ v1 ≤ _) (by omega), ck_w (x := 0) (by omega), if_pos rfl]
    by_cases c2 : v1 < 0
    · rw [if_pos c2]
      exact sim_so ⟨rfl, t3⟩
    · rw [if_neg c2, ck_w (by omega), if_neg (by omega)]
      exact sim_so ⟨rfl, t3⟩
end KH
