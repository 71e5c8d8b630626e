/-! unique -/
section CV
variable {n : Nat} {x : MT} {t : TxtS} {m : MtS} {s : MsS} {C : ClsS}
theorem e_shortestOnly (hn : 1000 ≤ n) (h : TX x t) (hC : ClsOk x C) {v1 : Int} (h1 : InR v1) : Ok (p_X1_shortestOnlyIn n C t v1) (fun b => (b = -6 ∧ ∀ q k, 1 ≤ k → k ≤ x.R q → ¬ WX x q k v1) ∨ ((0 ≤ b ∧ b < C.size) ∧ BM (-1) x (fun p l => WX x p l v1) (C.firstEnds b - C.shortest b + 1) (C.shortest b))) := by
  have hx := h.2
  have nn := hx.1
  have most := Cls_most hx hC
  have N0 := hC.1.1
  unfold InR at h1
  unfold p_X1_shortestOnlyIn
  refine ok_bd (P := fun b => (b = -6 ∧ ∀ q k, 1 ≤ k → k ≤ x.R q → ¬ WX x q k v1) ∨ ((0 ≤ b ∧ b < C.size) ∧ BM (-1) x (fun p l => WX x p l v1) (C.firstEnds b - C.shortest b + 1) (C.shortest b))) ?_ (fun r hr => ok_so hr)
  refine ok_lpJ (fun z => (0 ≤ z.2 ∧ z.2 ≤ C.size) ∧ CB (-1) x (fun c => C.wordSets c = v1) (fun c => C.firstEnds c - C.shortest c + 1) C.shortest z.1 z.2) (fun z => C.size - z.2) ?_ n _ ⟨by dsimp only; omega, Or.inl ⟨rfl, fun c a b => by dsimp only at b; omega⟩⟩ (by dsimp only; omega)
  rintro ⟨b, z⟩ ⟨hz, hB⟩
  dsimp only at hz hB ⊢
  refine ⟨by omega, ?_⟩
  unfold p_X1_shortestOnlyIn_b6
  dsimp only
  rw [ck_w (by omega), ck_w (by omega)]
  refine ok_ite (fun d => ?_) (fun d => ?_)
  · have r1 := (hC.1.2.1 z hz.1 d).1
    have ws := WS_small hx r1.2.2.2.2.1
    obtain ⟨_, z1, z3, z4, z5, z6, z7⟩ := e_starts hx hC ⟨hz.1, d⟩
    have pz := P_in hx (C.firstEnds z)
    rw [ix_of (by omega), ck_w (by omega), ck_w (by omega)]
    refine ok_ite (fun g => ?_) (fun g => ok_so ⟨⟨by dsimp only; omega, CB_no hB g⟩, by dsimp only; omega⟩)
    have hb : b = -6 ∨ (0 ≤ b ∧ b < C.size) := by
      rcases hB with w | w
      · exact Or.inl w.1
      · exact Or.inr (by omega)
    rw [ck_w (by omega)]
    unfold p_X1_shortestOnlyIn_j50
    refine ok_ite (fun w => ?_) (fun w => ?_)
    · rw [ck_w (by omega), if_pos (by omega)]
      exact ok_so ⟨⟨by dsimp only; omega, CB_new hx hB hz.1 g (fun q => absurd w q)⟩, by dsimp only; omega⟩
    · have hb' := hb.resolve_left w
      obtain ⟨_, b1, b3, b4, b5, b6, b7⟩ := e_starts hx hC hb'
      have pb := P_in hx (C.firstEnds b)
      rw [ix_of (by omega), ck_w (by omega)]
      refine ok_ite (fun u => ?_) (fun u => ?_)
      · exact ok_so ⟨⟨by dsimp only; omega, CB_new hx hB hz.1 g (fun _ => Or.inl (by (try dsimp only); omega))⟩, by dsimp only; omega⟩
      · refine ok_ite (fun v => ?_) (fun v => ?_)
        · have i1 := R_in hx (p := C.firstEnds z - C.shortest z + 1) (by omega)
          have i2 := R_in hx (p := C.firstEnds b - C.shortest b + 1) (by omega)
          obtain ⟨q1, q2⟩ := e_comesBefore hn h (p := C.firstEnds z - C.shortest z + 1) (q := C.firstEnds b - C.shortest b + 1) (by omega) (by omega)
          rw [z1, so_bd, b1, so_bd]
          by_cases y : Bf x (C.firstEnds z - C.shortest z + 1) (C.firstEnds b - C.shortest b + 1)
          · rw [q1 y, so_bd, ck_w (by omega), if_neg (by omega)]
            exact ok_so ⟨⟨by dsimp only; omega, CB_new hx hB hz.1 g (fun _ => Or.inr ⟨by (try dsimp only); omega, y⟩)⟩, by dsimp only; omega⟩
          · rw [q2 y, so_bd, ck_w (by omega), if_pos rfl]
            exact ok_so ⟨⟨by dsimp only; omega, CB_keep hB w (Or.inr ⟨by (try dsimp only); omega, y⟩)⟩, by dsimp only; omega⟩
        · exact ok_so ⟨⟨by dsimp only; omega, CB_keep hB w (Or.inl (by (try dsimp only); omega))⟩, by dsimp only; omega⟩
  · rw [show z = C.size by omega] at hB
    refine ok_so (CB_fin hx (Or.inr rfl) hB (fun c a b => ?_) (fun q k k0 k1 w => ?_))
    · obtain ⟨_, _, z3, z4, z5, z6, z7⟩ := e_starts hx hC ⟨a, b⟩
      have cw := Cls_WX hx hC ⟨a, b⟩ ⟨Int.le_refl _, z4.2.1⟩
      refine ⟨by omega, fun w => ?_, fun w => WX_un cw w⟩
      have w' : C.wordSets c = v1 := w
      rw [w'] at cw; exact cw
    · obtain ⟨c, c1, c2, c3⟩ := Cls_rep hx hC ⟨k0, k1⟩
      refine ⟨c, c1, WX_un (Cls_WX hx hC c1 c2) (WX_Sm c3 w), by omega, fun e => ?_⟩
      rw [e] at c3 ⊢; exact c3
theorem e_munique (hn : 1000 ≤ n) (h : MX 0 x m) (hs : SrtOk x s.sorted s.near) {v1 : Int} (h1 : InR v1) : Ok (lp (p_X7_unique_b34 n m s v1) n (-6, 61, 0)) (fun r => (r.1 = -6 ∧ ∀ q k, 1 ≤ k → k ≤ x.R q → ¬ WX x q k v1) ∨ ((0 ≤ r.1 ∧ r.1 < x.n) ∧ BM (-1) x (fun p l => WX x p l v1) r.1 r.2)) := by
  have hx := h.1
  have nn := hx.1
  have hm : m.many 0 = x.n := h.2.1
  unfold InR at h1
  refine ok_lpJ (fun z => (0 ≤ z.2.2 ∧ z.2.2 ≤ x.n) ∧ (0 ≤ z.2.1 ∧ z.2.1 ≤ 61) ∧ MB (-1) 61 x s.sorted s.near (fun p l => WX x p l v1) z.2.2 0 z.1 z.2.1) (fun z => x.n - z.2.2) ?_ n _ ⟨by dsimp only; omega, by dsimp only; omega, Or.inl ⟨rfl, rfl, fun j l' w => by have := w.1; have := w.2.2; have := near_nn hx hs w.1; have := w.2.1; dsimp only at *; omega⟩⟩ (by dsimp only; omega)
  rintro ⟨bp, bl, k⟩ ⟨hk, hbl, hB⟩
  dsimp only at hk hbl hB ⊢
  refine ⟨by omega, ?_⟩
  unfold p_X7_unique_b34
  dsimp only
  rw [hm, ck_w (by omega), ck_w (by omega)]
  refine ok_ite (fun d => ?_) (fun d => ?_)
  · have nk := near_nn hx hs ⟨hk.1, d⟩
    have sk := hs.1.2 k hk.1 d
    have rr := R_le hx (s.sorted k)
    rw [ix_of (by omega)]
    refine ok_bd (P := fun q => (0 ≤ q.2 ∧ q.2 ≤ 61) ∧ MB (-1) 61 x s.sorted s.near (fun p l => WX x p l v1) (k + 1) 0 q.1 q.2) ?_ (fun q hq => ok_so ⟨⟨by dsimp only; omega, hq.1, hq.2⟩, by dsimp only; omega⟩)
    refine ok_lpJ (fun z => (s.near k < z.2.2 ∧ z.2.2 ≤ x.R (s.sorted k) + 1) ∧ (0 ≤ z.2.1 ∧ z.2.1 ≤ 61) ∧ MB (-1) 61 x s.sorted s.near (fun p l => WX x p l v1) k z.2.2 z.1 z.2.1) (fun z => x.R (s.sorted k) + 1 - z.2.2) ?_ n _ ⟨by dsimp only; omega, hbl, MB_start hB nk.1⟩ (by dsimp only; omega)
    rintro ⟨cp, cl, l⟩ ⟨hl, hcl, hC⟩
    dsimp only at hl hcl hC ⊢
    refine ⟨by omega, ?_⟩
    unfold p_X7_unique_b56
    dsimp only
    rw [ix_of (by omega), e_rest (Or.inl rfl) h sk, so_bd, ck_w (by omega), ck_w (by omega)]
    refine ok_ite (fun g => ok_so ⟨hcl, MB_next hx hs hC g⟩) (fun g => ?_)
    rw [ck_w (by omega)]
    refine ok_ite (fun u => ?_) (fun u => ?_)
    · refine ok_bd (e_wordsOf hn h hs ⟨hk.1, d⟩ (l := l) (by omega) (by omega) (by omega)) ?_
      intro w hw
      have ws : 0 ≤ w ∧ w < 256 := BS_small hw (fun p _ => by have := W_in hx p; omega)
      rw [ck_w (by omega), ck_w (by omega)]
      refine ok_ite (fun y => ?_) (fun y => ?_)
      · refine ok_so ⟨⟨by dsimp only; omega, by dsimp only; omega, MB_new hs hC ⟨hk.1, d⟩ (by (try dsimp only); omega) ?_ (fun _ => by (try dsimp only); omega)⟩, by dsimp only; omega⟩
        show WX x (s.sorted k) l v1
        rw [← y]; exact hw
      · have no : ¬ WX x (s.sorted k) l v1 := fun q => y (WX_un hw q)
        exact ok_so ⟨⟨by dsimp only; omega, hcl, MB_keep hC (fun _ _ _ q => absurd q no) (fun _ _ => no)⟩, by dsimp only; omega⟩
    · refine ok_so ⟨⟨by dsimp only; omega, hcl, MB_keep hC (fun _ _ _ _ => by (try dsimp only); omega) (fun q => absurd q (by (try dsimp only); omega))⟩, by dsimp only; omega⟩
  · rw [show k = x.n by omega] at hB
    exact ok_so (MB_fin hx hs (fun p q l _ s w => WX_Sm s w) hB)
end CV
section KN
variable {n : Nat} {H : HisS} {V : MvS} {pr : Int} {T : TxtS} {C : ClsS} {K : SwpS} {m : MtS} {s : MsS} {P : PadS} {M : MpS}
theorem s_unique (hn : 1000 ≤ n) (h : HR H V pr) (hP : PR P M) (hT : TxI H T) (hC : ClI H C) {v1 : Int} (h1 : InR v1) : Sim (p_X6_unique n pr H P T C K v1) (p_X7_unique n V M m s v1) (fun r s => r.1 = s.1 ∧ PR r.2.1 s.2.1 ∧ TxI H r.2.2.1 ∧ ClI H r.2.2.2.1) := by
  unfold p_X6_unique p_X7_unique
  obtain ⟨r, e1, e2, e3⟩ := s_words h h1
  rw [e1, e2, so_bd, so_bd, ck_w (x := r) (by omega), ck_w (x := r) (by omega)]
  by_cases r0 : r = 0
  · rw [if_pos r0, if_pos r0]
    exact sim_so ⟨rfl, hP, hT, hC⟩
  · rw [if_neg r0, if_neg r0, ck_w (x := v1) h1, ck_w (x := v1) h1]
    by_cases g : v1 = 0
    · rw [if_pos g, if_pos g]
      exact sim_so ⟨rfl, hP, hT, hC⟩
    · rw [if_neg g, if_neg g]
      refine sim_l (e_showC hn h hT hC) ?_
      rintro ⟨T', C', K'⟩ ⟨q1, q2, q3, q4, q5⟩
      dsimp only at q1 q2 q3 q4 q5 ⊢
      refine sim_r (e_layP hn h) ?_
      rintro m' ⟨m1, _⟩
      refine sim_r (e_sort hn m1 s) ?_
      intro s' hs'
      have hx := q1.2
      have nn := hx.1
      have most := Cls_most hx q3
      refine sim_l (e_shortestOnly hn q1 q3 h1) ?_
      intro b hb
      refine sim_r (e_munique hn m1 hs' h1) ?_
      rintro ⟨cp, cl⟩ hc
      dsimp only at hc ⊢
      rcases hb with ⟨b1, b2⟩ | ⟨b1, b2⟩
      · rcases hc with ⟨c1, c2⟩ | ⟨c1, c2⟩
        · rw [ck_w (by omega), if_pos b1, ck_w (by omega), if_pos (by omega)]
          exact sim_so ⟨rfl, hP, q2, q4⟩
        · exact absurd c2.2.1 (b2 _ _ c2.1.1 c2.1.2)
      · rcases hc with ⟨c1, c2⟩ | ⟨c1, c2⟩
        · exact absurd b2.2.1 (c2 _ _ b2.1.1 b2.1.2)
        · obtain ⟨u1, u2⟩ := BM_un hx (Or.inr rfl) b2 c2
          obtain ⟨_, z1, z3, z4, z5, z6, z7⟩ := e_starts hx q3 b1
          have i1 := R_in hx (p := C'.firstEnds b - C'.shortest b + 1) (by omega)
          have a1 := (e_parts1 q3 most b1).2.1
          rw [ck_w (by omega), if_neg (by omega), z1, so_bd, a1, so_bd, ck_w (by omega), if_neg (by omega), ← u1]
          refine sim_bd (s_write hn q1 m1 (P := P) (M := M) (by omega) u2 i1 c1) ?_
          rintro r s ⟨y1, y2, y3⟩
          exact sim_so ⟨y1.trans y2.symm, y3, q2, q4⟩
end KN
