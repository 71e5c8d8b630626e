/-! both sides at once -/
def Sim {α β : Type} (a : Option α) (b : Option β) (Q : α → β → Prop) : Prop := ∃ r s, a = some r ∧ b = some s ∧ Q r s
section SI
variable {α β γ δ : Type}
theorem sim_l {a : Option α} {f : α → Option γ} {b : Option δ} {P : α → Prop} {Q : γ → δ → Prop} (h : Ok a P) (k : ∀ r, P r → Sim (f r) b Q) : Sim (a.bind f) b Q := by
  obtain ⟨r, e, p⟩ := h
  rw [e, so_bd]; exact k r p
theorem sim_r {a : Option γ} {b : Option β} {g : β → Option δ} {P : β → Prop} {Q : γ → δ → Prop} (h : Ok b P) (k : ∀ r, P r → Sim a (g r) Q) : Sim a (b.bind g) Q := by
  obtain ⟨r, e, p⟩ := h
  rw [e, so_bd]; exact k r p
theorem sim_so {r : α} {s : β} {Q : α → β → Prop} (h : Q r s) : Sim (some r) (some s) Q := ⟨r, s, rfl, rfl, h⟩
theorem sim_mono {a : Option α} {b : Option β} {P Q : α → β → Prop} (h : Sim a b P) (k : ∀ r s, P r s → Q r s) : Sim a b Q := by
  obtain ⟨r, s, e1, e2, p⟩ := h
  exact ⟨r, s, e1, e2, k r s p⟩
theorem sim_bd {a : Option α} {b : Option β} {f : α → Option γ} {g : β → Option δ} {P : α → β → Prop} {Q : γ → δ → Prop} (h : Sim a b P) (k : ∀ r s, P r s → Sim (f r) (g s) Q) : Sim (a.bind f) (b.bind g) Q := by
  obtain ⟨r, s, e1, e2, p⟩ := h
  rw [e1, e2, so_bd, so_bd]; exact k r s p
theorem sim_ok {a : Option α} {b : Option β} {P : α → Prop} {R : β → Prop} {Q : α → β → Prop} (h : Ok a P) (k : Ok b R) (q : ∀ r s, P r → R s → Q r s) : Sim a b Q := by
  obtain ⟨r, e1, p1⟩ := h
  obtain ⟨s, e2, p2⟩ := k
  exact ⟨r, s, e1, e2, q r s p1 p2⟩
end SI
/-! what is kept of a version -/
def TxI (H : HisS) (T : TxtS) : Prop := (-1 ≤ T.version ∧ T.version < H.size) ∧ (0 ≤ T.version → TV H T.version T)
def ClI (H : HisS) (C : ClsS) : Prop := (-1 ≤ C.version ∧ C.version < H.size) ∧ (0 ≤ C.version → ClsOk (nb (ct H C.version)) C)
def BgI (H : HisS) (B : BegS) : Prop := (-1 ≤ B.version ∧ B.version < H.size) ∧ (0 ≤ B.version → BegOk (nb (ct H B.version)) B)
section KE
variable {n : Nat} {H H' : HisS} {V : MvS} {pr : Int} {T : TxtS} {C : ClsS} {K : SwpS} {B : BegS} {m : MtS} {c : McS}
theorem TxI_ext (h : HH H) (h' : HH H') (e : Ext H H') (k : TxI H T) : TxI H' T := by
  obtain ⟨k1, k2⟩ := k
  have := e.1
  refine ⟨by omega, fun q => ?_⟩
  have w := k2 q
  unfold TV at w ⊢
  rw [ct_ext h h' e _ q k1.2]; exact w
theorem ClI_ext (h : HH H) (h' : HH H') (e : Ext H H') (k : ClI H C) : ClI H' C := by
  obtain ⟨k1, k2⟩ := k
  have := e.1
  refine ⟨by omega, fun q => ?_⟩
  rw [ct_ext h h' e _ q k1.2]; exact k2 q
theorem BgI_ext (h : HH H) (h' : HH H') (e : Ext H H') (k : BgI H B) : BgI H' B := by
  obtain ⟨k1, k2⟩ := k
  have := e.1
  refine ⟨by omega, fun q => ?_⟩
  rw [ct_ext h h' e _ q k1.2]; exact k2 q
theorem x_ok (h : HH H) {w : Int} (hw : 0 ≤ w ∧ w < H.size) : MOk (nb (ct H w)) := nb_ok (ct_ok h w hw.1 hw.2)
theorem TV_I {w : Int} (hw : 0 ≤ w ∧ w < H.size) (h : TV H w T) : TxI H T := by
  have := h.1
  exact ⟨by omega, fun _ => by rw [this]; exact h⟩
theorem e_take (hn : 1000 ≤ n) (h : HH H) {w : Int} (hw : 0 ≤ w ∧ w < H.size) (k : TxI H T) : Ok (p_X5_takeVersion n T H w) (TV H w) := by
  have hH := h.1
  have k1 := k.1
  exact e_takeVersion hn h hw (by unfold InR; omega) (fun q => by have := k.2 (by omega); rw [q] at this; exact this)
theorem e_show (hn : 1000 ≤ n) (h : HR H V pr) (k : TxI H T) : Ok (p_X6_showPresent n pr H T) (fun T' => TX (nb (ct H pr)) T' ∧ T'.version = pr ∧ TxI H T' ∧ TV H pr T') := by
  have hw : 0 ≤ pr ∧ pr < H.size := h.2.2.2
  unfold p_X6_showPresent
  exact ok_bd (e_take hn h.1 hw k) (fun T' q => ok_so ⟨⟨q.2.2.1, x_ok h.1 hw⟩, q.1, TV_I hw q, q⟩)
theorem e_showC (hn : 1000 ≤ n) (h : HR H V pr) (k : TxI H T) (hC : ClI H C) : Ok (p_X6_showClasses n pr H T C K) (fun r => TX (nb (ct H pr)) r.1 ∧ TxI H r.1 ∧ ClsOk (nb (ct H pr)) r.2.1 ∧ ClI H r.2.1 ∧ r.1.version = pr) := by
  have hw : 0 ≤ pr ∧ pr < H.size := h.2.2.2
  have hH := h.1.1
  have c1 := hC.1
  unfold p_X6_showClasses
  refine ok_bd (e_show hn h k) ?_
  rintro T' ⟨t1, t2, t3, _⟩
  refine ok_bd (e_clsR hn t1 (C := C) (S := K) (by unfold InR; omega) (by unfold InR; omega) (fun q => ?_)) ?_
  · have := hC.2 (by omega)
    rw [q, t2] at this; exact this
  · rintro ⟨C', K'⟩ ⟨q1, q2⟩
    dsimp only at q1 q2
    refine ok_so ⟨t1, t3, q1, ⟨?_, fun _ => ?_⟩, t2⟩
    · dsimp only; omega
    · dsimp only; rw [q2, t2]; exact q1
theorem e_layP (hn : 1000 ≤ n) (h : HR H V pr) : Ok (p_X7_layPresent n V m) (fun m' => MX 0 (nb (ct H pr)) m' ∧ MLy 0 (ct H pr) m') := by
  have hw : 0 ≤ pr ∧ pr < H.size := h.2.2.2
  unfold p_X7_layPresent
  rw [h.2.2.1]
  exact ok_bd (e_lay hn h.1 h.2.1 (Or.inl rfl) hw) (fun m' q => ok_so ⟨MX_of (ct_ok h.1 pr hw.1 hw.2) q.1, q.1⟩)
theorem e_isClass (hn : 1000 ≤ n) (h : HR H V pr) {v : Int} (hv : InR v) : Ok (p_X7_isClass n V m c v) (fun r => r.1 = (if 0 ≤ v ∧ v < r.2.2.classes then 1 else 0) ∧ MX 0 (nb (ct H pr)) r.2.1 ∧ McOk (nb (ct H pr)) r.2.2) := by
  unfold p_X7_isClass
  refine ok_bd (e_layP hn h) (fun m' q => ok_bd (e_layC hn q.1 c) (fun c' w => ?_))
  have w1 := w.1.1
  have w2 := w.2.2
  rw [e_in hv (by decide) (by unfold InR; omega), so_bd]
  by_cases g : 0 ≤ v ∧ v < c'.classes
  · rw [if_pos (by omega), bk_of (Or.inr rfl)]
    exact ok_so ⟨by dsimp only; rw [if_pos g], q.1, w⟩
  · rw [if_neg (by omega), bk_of (Or.inl rfl)]
    exact ok_so ⟨by dsimp only; rw [if_neg g], q.1, w⟩
theorem e_hasC {x : MT} (hC : ClsOk x C) (hN : C.size ≤ 120) {v : Int} (hv : InR v) : p_X1_has C v = some (if 0 ≤ v ∧ v < C.size then 1 else 0) := by
  have := hC.1.1
  unfold p_X1_has
  unfold InR at hv
  rw [ck_w hv]
  by_cases a : v < 0
  · rw [if_pos a, if_neg (by omega)]
  · rw [if_neg a, ck_w (by omega)]
    by_cases b : v < C.size
    · rw [if_pos b, if_pos (by omega)]
    · rw [if_neg b, if_neg (by omega)]
/-- the parts of a class that is there -/
theorem e_parts1 {x : MT} (hC : ClsOk x C) (hN : C.size ≤ 120) {v : Int} (hv : 0 ≤ v ∧ v < C.size) : p_X1_longestIn C v = some (C.longest v) ∧ p_X1_shortestIn C v = some (C.shortest v) ∧ p_X1_endsIn C v = some (C.ends v) ∧ p_X1_linkOf C v = some (C.links v) ∧ p_X1_stepsOf C v = some (C.stepSets v) ∧ p_X1_wordsOf C v = some (C.wordSets v) ∧ p_X1_firstEndOf C v = some (C.firstEnds v) := by
  have e := e_hasC hC hN (v := v) (by unfold InR; omega)
  rw [if_pos hv] at e
  unfold p_X1_longestIn p_X1_shortestIn p_X1_endsIn p_X1_linkOf p_X1_stepsOf p_X1_wordsOf p_X1_firstEndOf
  rw [e, so_bd, so_bd, so_bd, so_bd, so_bd, so_bd, so_bd]
  refine ⟨?_, ?_, ?_, ?_, ?_, ?_, ?_⟩ <;> rw [ck_w (by omega), if_neg (by omega), ix_of (by omega)]
theorem Cls_most {x : MT} (hx : MOk x) (hC : ClsOk x C) : C.size ≤ 120 := by
  have q := ClsOk_CT hx hC
  have := CT_most hx q.1 (fun c a b => (q.2.1 c a b).1) q.2.2.1
  have := hx.1
  omega
theorem s_group (hn : 1000 ≤ n) (h : HR H V pr) (hT : TxI H T) (hC : ClI H C) {v1 v2 : Int} (h1 : InR v1) (h2 : InR v2) : Sim (p_X6_group n pr H T C K v1 v2) (p_X7_group n V m c v1 v2) (fun r s => r.1 = s.1 ∧ TxI H r.2.1 ∧ ClI H r.2.2.1) := by
  unfold p_X6_group p_X7_group
  refine sim_l (e_showC hn h hT hC) ?_
  rintro ⟨T', C', K'⟩ ⟨q1, q2, q3, q4, q5⟩
  refine sim_r (e_isClass hn h h1) ?_
  rintro ⟨b, m', c'⟩ ⟨w1, w2, w3⟩
  dsimp only at q1 q2 q3 q4 q5 w1 w2 w3 ⊢
  have hx := q1.2
  have two := Two_of hx q3 w3
  obtain ⟨_, _, t3, t4⟩ := two
  have most := Cls_most hx q3
  rw [e_hasC q3 most h1, so_bd, w1, t3]
  by_cases g : 0 ≤ v1 ∧ v1 < c'.classes
  · rw [if_pos g]
    have e1 := e_parts1 q3 most (v := v1) (by omega)
    obtain ⟨a1, a2, a3, a4, a5, a6, a7⟩ := e1
    obtain ⟨u1, u2, u3⟩ := t4 v1 g.1 g.2
    have rw1 := (q3.1.2.1 v1 g.1 (by omega)).1
    have m2 := w3.2.1 v1 g.1 g.2
    have cc := rw1.1.1
    have cl := rw1.1.2.1
    have kk := (kn_ok hx (C'.firstEnds v1)).1
    unfold InR at h2
    simp (disch := omega) only [ck_w, if_neg]
    by_cases c0 : v2 = 0
    · simp (disch := omega) only [if_pos c0, a1, so_bd, ix_of]
      exact sim_so ⟨u3, q2, q4⟩
    by_cases c1 : v2 = 1
    · simp (disch := omega) only [if_neg c0, if_pos c1, a2, so_bd, ix_of]
      exact sim_so ⟨u2, q2, q4⟩
    by_cases c2 : v2 = 2
    · simp (disch := omega) only [if_neg c0, if_neg c1, if_pos c2, a3, so_bd, ix_of]
      exact sim_so ⟨by dsimp only; rw [rw1.2.2.1, m2, u1, u3], q2, q4⟩
    by_cases c3 : v2 = 3
    · simp only [if_neg c0, if_neg c1, if_neg c2, if_pos c3, a4, so_bd]
      refine sim_r (e_linkOf hn w2 w3 g) (fun r hr => sim_so ⟨?_, q2, q4⟩)
      dsimp only
      rcases rw1.2.2.2.1 with f | f
      · rcases hr with f2 | f2
        · rw [f.2, f2.2]
        · omega
      · rcases hr with f2 | f2
        · omega
        · rw [u1, u2] at f
          exact Two_un hx (Two_of hx q3 w3) (by omega) f.2 f2.2
    by_cases c4 : v2 = 4
    · unfold p_X7_firstOf
      simp (disch := omega) only [if_neg c0, if_neg c1, if_neg c2, if_neg c3, if_pos c4, a5, so_bd, ix_of]
      have pr := P_R hx cc (l := C'.longest v1) (by omega)
      rw [u1, u3] at pr
      refine sim_r (e_nextOf hn w2 ⟨by omega, pr.2.2.1⟩) (fun r hr => sim_so ⟨?_, q2, q4⟩)
      have ss := rw1.2.2.2.2.2
      rw [u1, u3] at ss
      exact NX_SS hx (by omega) (by omega) ss hr
    by_cases c5 : v2 = 5
    · simp only [if_neg c0, if_neg c1, if_neg c2, if_neg c3, if_neg c4, if_pos c5, a6, so_bd]
      refine sim_r (e_wordsOfClass hn w2 w3 g) (fun r hr => sim_so ⟨?_, q2, q4⟩)
      have ss := rw1.2.2.2.2.1
      rw [u1, u3] at ss
      exact WX_WS hx (by omega) (by omega) ss hr
    by_cases c6 : v2 = 6
    · unfold p_X5_placeCode
      rw [u1] at cc
      simp (disch := omega) only [if_neg c0, if_neg c1, if_neg c2, if_neg c3, if_neg c4, if_neg c5, if_pos c6, a7, so_bd, ix_of, u1, e_asEnd w2 cc, e_wordAt q1 (p := c'.classLast v1) (by have := hx.1; unfold InR; omega), e_placeAt q1 (p := c'.classLast v1) (by have := hx.1; unfold InR; omega)]
      exact sim_so ⟨rfl, q2, q4⟩
    · simp only [if_neg c0, if_neg c1, if_neg c2, if_neg c3, if_neg c4, if_neg c5, if_neg c6]
      exact sim_so ⟨rfl, q2, q4⟩
  · rw [if_neg g, ck_w (by omega), if_pos rfl, ck_w (by omega), if_pos rfl]
    exact sim_so ⟨rfl, q2, q4⟩
end KE
