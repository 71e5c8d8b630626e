/-! common and unique -/
section CU
variable {n : Nat} {x : MT} {t : TxtS} {m : MtS} {s : MsS} {C : ClsS}
def Ac (x : MT) (v1 v2 p l : Int) : Prop := ∃ w, WX x p l w ∧ v2 ≤ sz (biand w v1)
theorem e_starts (hx : MOk x) (hC : ClsOk x C) {c : Int} (hc : 0 ≤ c ∧ c < C.size) : p_X1_longestStart C c = some (C.firstEnds c - C.longest c + 1) ∧ p_X1_shortestStart C c = some (C.firstEnds c - C.shortest c + 1) ∧ (0 ≤ C.firstEnds c ∧ C.firstEnds c < x.n) ∧ (1 ≤ C.shortest c ∧ C.shortest c ≤ C.longest c ∧ C.longest c ≤ x.P (C.firstEnds c) + 1) ∧ C.longest c ≤ 60 ∧ (0 ≤ C.firstEnds c - C.longest c + 1 ∧ C.longest c ≤ x.R (C.firstEnds c - C.longest c + 1)) ∧ C.shortest c ≤ x.R (C.firstEnds c - C.shortest c + 1) := by
  obtain ⟨a1, a2, a3, a4, a5, a6, a7⟩ := e_parts1 hC (Cls_most hx hC) hc
  have r1 := (hC.1.2.1 c hc.1 hc.2).1
  have k0 := (kn_ok hx (C.firstEnds c)).1
  have b := r1.1.2.1
  have pp := P_in hx (C.firstEnds c)
  have p1 := P_R hx r1.1.1 (l := C.longest c) (by omega)
  have p2 := P_R hx r1.1.1 (l := C.shortest c) (by omega)
  unfold p_X1_longestStart p_X1_shortestStart
  rw [a7, so_bd, so_bd, a1, so_bd, a2, so_bd]
  exact ⟨rfl, rfl, r1.1.1, by omega, by omega, ⟨p1.1.1, p1.2.2.1⟩, p2.2.2.1⟩
theorem e_longestShared (hn : 1000 ≤ n) (h : TX x t) (hC : ClsOk x C) {v1 v2 : Int} (h2 : 1 ≤ v2 ∧ v2 ≤ 6) : Ok (p_X1_longestShared n C t v1 v2) (fun b => (b = -6 ∧ ∀ q k, 1 ≤ k → k ≤ x.R q → ¬ Ac x v1 v2 q k) ∨ ((0 ≤ b ∧ b < C.size) ∧ BM 1 x (Ac x v1 v2) (C.firstEnds b - C.longest b + 1) (C.longest b))) := by
  have hx := h.2
  have nn := hx.1
  have most := Cls_most hx hC
  have N0 := hC.1.1
  unfold p_X1_longestShared
  refine ok_bd (P := fun b => (b = -6 ∧ ∀ q k, 1 ≤ k → k ≤ x.R q → ¬ Ac x v1 v2 q k) ∨ ((0 ≤ b ∧ b < C.size) ∧ BM 1 x (Ac x v1 v2) (C.firstEnds b - C.longest b + 1) (C.longest b))) ?_ (fun r hr => ok_so hr)
  refine ok_lpJ (fun z => (0 ≤ z.2 ∧ z.2 ≤ C.size) ∧ CB 1 x (fun c => v2 ≤ sz (biand (C.wordSets c) v1)) (fun c => C.firstEnds c - C.longest c + 1) C.longest z.1 z.2) (fun z => C.size - z.2) ?_ n _ ⟨by dsimp only; omega, Or.inl ⟨rfl, fun c a b => by dsimp only at b; omega⟩⟩ (by dsimp only; omega)
  rintro ⟨b, z⟩ ⟨hz, hB⟩
  dsimp only at hz hB ⊢
  refine ⟨by omega, ?_⟩
  unfold p_X1_longestShared_b7
  dsimp only
  rw [ck_w (by omega), ck_w (by omega)]
  refine ok_ite (fun d => ?_) (fun d => ?_)
  · have r1 := (hC.1.2.1 z hz.1 d).1
    have ws := WS_small hx r1.2.2.2.2.1
    have sl := sz_le (and_small (b := v1) ws)
    obtain ⟨z1, _, z3, z4, z5, z6, _⟩ := e_starts hx hC ⟨hz.1, d⟩
    rw [ix_of (by omega), e_bitCount (and_small ws), so_bd, ck_w (by omega), ck_w (by omega)]
    refine ok_ite (fun g => ok_so ⟨⟨by (try dsimp only); omega, CB_no hB (by (try dsimp only); omega)⟩, by (try dsimp only); omega⟩) (fun g => ?_)
    have hb : b = -6 ∨ (0 ≤ b ∧ b < C.size) := by
      rcases hB with w | w
      · exact Or.inl w.1
      · exact Or.inr (by omega)
    rw [ck_w (by omega)]
    unfold p_X1_longestShared_j58
    refine ok_ite (fun w => ?_) (fun w => ?_)
    · rw [ck_w (by omega), if_pos (by omega)]
      exact ok_so ⟨⟨by (try dsimp only); omega, CB_new hx hB hz.1 (by (try dsimp only); omega) (fun q => absurd w q)⟩, by (try dsimp only); omega⟩
    · have hb' := hb.resolve_left w
      obtain ⟨b1, _, b3, b4, b5, b6, _⟩ := e_starts hx hC hb'
      rw [ix_of (by omega), ck_w (by omega)]
      refine ok_ite (fun u => ?_) (fun u => ?_)
      · exact ok_so ⟨⟨by (try dsimp only); omega, CB_new hx hB hz.1 (by (try dsimp only); omega) (fun _ => Or.inl (by (try dsimp only); omega))⟩, by (try dsimp only); omega⟩
      · refine ok_ite (fun v => ?_) (fun v => ?_)
        · obtain ⟨q1, q2⟩ := e_comesBefore hn h (p := C.firstEnds z - C.longest z + 1) (q := C.firstEnds b - C.longest b + 1) (by omega) (by omega)
          rw [z1, so_bd, b1, so_bd]
          by_cases y : Bf x (C.firstEnds z - C.longest z + 1) (C.firstEnds b - C.longest b + 1)
          · rw [q1 y, so_bd, ck_w (by omega), if_neg (by omega)]
            exact ok_so ⟨⟨by (try dsimp only); omega, CB_new hx hB hz.1 (by (try dsimp only); omega) (fun _ => Or.inr ⟨by (try dsimp only); omega, y⟩)⟩, by (try dsimp only); omega⟩
          · rw [q2 y, so_bd, ck_w (by omega), if_pos rfl]
            exact ok_so ⟨⟨by (try dsimp only); omega, CB_keep hB w (Or.inr ⟨by (try dsimp only); omega, y⟩)⟩, by (try dsimp only); omega⟩
        · exact ok_so ⟨⟨by (try dsimp only); omega, CB_keep hB w (Or.inl (by (try dsimp only); omega))⟩, by (try dsimp only); omega⟩
  · rw [show z = C.size by omega] at hB
    refine ok_so (CB_fin hx (Or.inl rfl) hB (fun c a b => ?_) (fun q k k0 k1 w => ?_))
    · obtain ⟨_, _, z3, z4, z5, z6, _⟩ := e_starts hx hC ⟨a, b⟩
      refine ⟨by omega, fun w => ⟨_, Cls_WX hx hC ⟨a, b⟩ ⟨z4.2.1, Int.le_refl _⟩, w⟩, ?_⟩
      rintro ⟨w, w1, w2⟩
      rw [WX_un (Cls_WX hx hC ⟨a, b⟩ ⟨z4.2.1, Int.le_refl _⟩) w1]; exact w2
    · obtain ⟨c, c1, c2, c3⟩ := Cls_rep hx hC ⟨k0, k1⟩
      obtain ⟨y, w1, w2⟩ := w
      refine ⟨c, c1, ?_, by omega, fun e => ?_⟩
      · rw [WX_un (Cls_WX hx hC c1 c2) (WX_Sm c3 w1)]; exact w2
      · rw [e] at c3 ⊢; exact c3
theorem Ac_Sm {v1 v2 : Int} : ∀ p q l, 1 ≤ l → Sm x p x q l → Ac x v1 v2 p l → Ac x v1 v2 q l := by
  rintro p q l _ s ⟨w, w1, w2⟩
  exact ⟨w, WX_Sm s w1, w2⟩
theorem e_mcommon (hn : 1000 ≤ n) (h : MX 0 x m) (hs : SrtOk x s.sorted s.near) {v1 v2 : Int} (h2 : 1 ≤ v2 ∧ v2 ≤ 6) : Ok (lp (p_X7_common_b40 n m s v1 v2) n (-6, 0, 0)) (fun r => (r.1 = -6 ∧ ∀ q k, 1 ≤ k → k ≤ x.R q → ¬ Ac x v1 v2 q k) ∨ ((0 ≤ r.1 ∧ r.1 < x.n) ∧ BM 1 x (Ac x v1 v2) r.1 r.2)) := by
  have hx := h.1
  have nn := hx.1
  have hm : m.many 0 = x.n := h.2.1
  refine ok_lpJ (fun z => (0 ≤ z.2.2 ∧ z.2.2 ≤ x.n) ∧ (0 ≤ z.2.1 ∧ z.2.1 ≤ 60) ∧ MB 1 0 x s.sorted s.near (Ac x v1 v2) z.2.2 0 z.1 z.2.1) (fun z => x.n - z.2.2) ?_ n _ ⟨by dsimp only; omega, by dsimp only; omega, Or.inl ⟨rfl, rfl, fun j l' w => by have := w.1; have := w.2.2; have := near_nn hx hs w.1; have := w.2.1; dsimp only at *; omega⟩⟩ (by dsimp only; omega)
  rintro ⟨bp, bl, k⟩ ⟨hk, hbl, hB⟩
  dsimp only at hk hbl hB ⊢
  refine ⟨by omega, ?_⟩
  unfold p_X7_common_b40
  dsimp only
  rw [hm, ck_w (by omega), ck_w (by omega)]
  refine ok_ite (fun d => ?_) (fun d => ?_)
  · have nk := near_nn hx hs ⟨hk.1, d⟩
    have sk := hs.1.2 k hk.1 d
    have rr := R_le hx (s.sorted k)
    rw [ix_of (by omega)]
    refine ok_bd (P := fun q => (0 ≤ q.2 ∧ q.2 ≤ 60) ∧ MB 1 0 x s.sorted s.near (Ac x v1 v2) (k + 1) 0 q.1 q.2) ?_ (fun q hq => ok_so ⟨⟨by dsimp only; omega, hq.1, hq.2⟩, by dsimp only; omega⟩)
    refine ok_lpJ (fun z => (s.near k < z.2.2 ∧ z.2.2 ≤ x.R (s.sorted k) + 1) ∧ (0 ≤ z.2.1 ∧ z.2.1 ≤ 60) ∧ MB 1 0 x s.sorted s.near (Ac x v1 v2) k z.2.2 z.1 z.2.1) (fun z => x.R (s.sorted k) + 1 - z.2.2) ?_ n _ ⟨by dsimp only; omega, hbl, MB_start hB nk.1⟩ (by dsimp only; omega)
    rintro ⟨cp, cl, l⟩ ⟨hl, hcl, hC⟩
    dsimp only at hl hcl hC ⊢
    refine ⟨by omega, ?_⟩
    unfold p_X7_common_b62
    dsimp only
    rw [ix_of (by omega), e_rest (Or.inl rfl) h sk, so_bd, ck_w (by omega), ck_w (by omega)]
    refine ok_ite (fun g => ok_so ⟨hcl, MB_next hx hs hC g⟩) (fun g => ?_)
    rw [ck_w (by omega)]
    refine ok_ite (fun u => ?_) (fun u => ?_)
    · refine ok_bd (e_wordsOf hn h hs ⟨hk.1, d⟩ (l := l) (by omega) (by omega) (by omega)) ?_
      intro w hw
      have ws : 0 ≤ w ∧ w < 256 := BS_small hw (fun p _ => by have := W_in hx p; omega)
      have sl := sz_le (and_small (b := v1) ws)
      rw [e_sizeOf hn, so_bd, ck_w (by omega), ck_w (by omega)]
      refine ok_ite (fun y => ?_) (fun y => ?_)
      · have no : ¬ Ac x v1 v2 (s.sorted k) l := by
          rintro ⟨w', a1, a2⟩
          rw [WX_un a1 hw] at a2; omega
        exact ok_so ⟨⟨by (try dsimp only); omega, hcl, MB_keep hC (fun _ _ _ q => absurd q no) (fun _ _ => no)⟩, by (try dsimp only); omega⟩
      · exact ok_so ⟨⟨by (try dsimp only); omega, by (try dsimp only); omega, MB_new hs hC ⟨hk.1, d⟩ (by (try dsimp only); omega) ⟨w, hw, by (try dsimp only); omega⟩ (fun _ => by (try dsimp only); omega)⟩, by (try dsimp only); omega⟩
    · refine ok_so ⟨⟨by (try dsimp only); omega, hcl, MB_keep hC (fun _ _ _ _ => by (try dsimp only); omega) (fun q => absurd q (by (try dsimp only); omega))⟩, by (try dsimp only); omega⟩
  · rw [show k = x.n by omega] at hB
    exact ok_so (MB_fin hx hs Ac_Sm hB)
end CU
section KM
variable {n : Nat} {H : HisS} {V : MvS} {pr : Int} {T : TxtS} {C : ClsS} {K : SwpS} {m : MtS} {s : MsS} {P : PadS} {M : MpS}
theorem s_common (hn : 1000 ≤ n) (h : HR H V pr) (hP : PR P M) (hT : TxI H T) (hC : ClI H C) {v1 v2 : Int} (h1 : InR v1) (h2 : InR v2) : Sim (p_X6_common n pr H P T C K v1 v2) (p_X7_common n V M m s v1 v2) (fun r s => r.1 = s.1 ∧ PR r.2.1 s.2.1 ∧ TxI H r.2.2.1 ∧ ClI H r.2.2.2.1) := by
  unfold p_X6_common p_X7_common
  obtain ⟨r, e1, e2, e3⟩ := s_words h h1
  rw [e1, e2, so_bd, so_bd, ck_w (x := r) (by omega), ck_w (x := r) (by omega)]
  by_cases r0 : r = 0
  · rw [if_pos r0, if_pos r0]
    exact sim_so ⟨rfl, hP, hT, hC⟩
  · rw [if_neg r0, if_neg r0, e_in h2 (by decide) (by decide), so_bd]
    unfold InR at h2
    rw [ck_w h2]
    by_cases g : 1 ≤ v2 ∧ v2 ≤ 6
    · rw [if_neg (c := v2 < 1) (by omega), if_neg (c := 6 < v2) (by omega), if_pos g, ck_w (x := 1) (by omega), if_neg (c := (1 : Int) = 0) (by omega)]
      refine sim_l (e_showC hn h hT hC) ?_
      rintro ⟨T', C', K'⟩ ⟨q1, q2, q3, q4, q5⟩
      dsimp only at q1 q2 q3 q4 q5 ⊢
      refine sim_r (e_layP hn h) ?_
      rintro m' ⟨m1, _⟩
      refine sim_r (e_sort hn m1 s) ?_
      intro s' hs'
      have hx := q1.2
      have nn := hx.1
      have most := Cls_most hx q3
      refine sim_l (e_longestShared hn q1 q3 (v1 := v1) g) ?_
      intro b hb
      refine sim_r (e_mcommon hn m1 hs' (v1 := v1) g) ?_
      rintro ⟨cp, cl⟩ hc
      dsimp only at hc ⊢
      rcases hb with ⟨b1, b2⟩ | ⟨b1, b2⟩
      · rcases hc with ⟨c1, c2⟩ | ⟨c1, c2⟩
        · rw [ck_w (by omega), if_pos b1, ck_w (by omega), if_pos (by omega)]
          exact sim_so ⟨rfl, hP, q2, q4⟩
        · exact absurd c2.2.1 (b2 _ _ c2.1.1 c2.1.2)
      · rcases hc with ⟨c1, c2⟩ | ⟨c1, c2⟩
        · exact absurd b2.2.1 (c2 _ _ b2.1.1 b2.1.2)
        · obtain ⟨u1, u2⟩ := BM_un hx (Or.inl rfl) b2 c2
          obtain ⟨z1, _, z3, z4, z5, z6, _⟩ := e_starts hx q3 b1
          have a1 := (e_parts1 q3 most b1).1
          rw [ck_w (by omega), if_neg (by omega), z1, so_bd, a1, so_bd, ck_w (by omega), if_neg (by omega), ← u1]
          refine sim_bd (s_write hn q1 m1 (P := P) (M := M) (by omega) u2 (by omega) c1) ?_
          rintro r s ⟨y1, y2, y3⟩
          exact sim_so ⟨y1.trans y2.symm, y3, q2, q4⟩
    · rw [if_neg (c := 1 ≤ v2 ∧ v2 ≤ 6) g, ck_w (x := 0) (by omega), if_pos (c := (0 : Int) = 0) rfl]
      by_cases a : v2 < 1
      · rw [if_pos a]
        exact sim_so ⟨rfl, hP, hT, hC⟩
      · rw [if_neg a, if_pos (by omega)]
        exact sim_so ⟨rfl, hP, hT, hC⟩
end KM
