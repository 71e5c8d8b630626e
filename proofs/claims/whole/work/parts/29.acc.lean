/-! a text object and what it shows -/
def TX (x : MT) (t : TxtS) : Prop := nx t = x ∧ MOk x
theorem TX_len {x : MT} {t : TxtS} (h : TX x t) : t.length = x.n ∧ 0 ≤ x.n ∧ x.n ≤ 60 := ⟨by rw [← h.1]; rfl, h.2.1⟩
theorem TX_at {x : MT} {t : TxtS} (h : TX x t) {p : Int} (hp : 0 ≤ p ∧ p < x.n) : t.letters p = x.L p ∧ t.words p = x.W p ∧ t.places p = x.P p ∧ t.rests p = x.R p := by
  have hl := TX_len h
  obtain ⟨e, -⟩ := h
  subst e
  have hp : 0 ≤ p ∧ p < t.length := hp
  show t.letters p = mk t.length t.letters p ∧ t.words p = mk t.length t.words p ∧ t.places p = mk t.length t.places p ∧ t.rests p = mk t.length t.rests p
  rw [mk_in _ hp, mk_in _ hp, mk_in _ hp, mk_in _ hp]
  exact ⟨rfl, rfl, rfl, rfl⟩
theorem e_letterAt {x : MT} {t : TxtS} (h : TX x t) {p : Int} (hp : InR p) : p_X5_letterAt t p = some (x.L p) := by
  have hl := TX_len h
  unfold p_X5_letterAt
  rw [e_hasT hp (by omega), so_bd, hl.1]
  by_cases c : 0 ≤ p ∧ p < x.n
  · simp (disch := omega) only [ck_w, ix_of, ite_true, ite_false, if_pos, if_neg]
    rw [(TX_at h c).1]
  · simp (disch := omega) only [ck_w, ix_of, ite_true, ite_false, if_pos, if_neg]
    rw [(h.2.2.2.2.2 p c).1]
theorem e_wordAt {x : MT} {t : TxtS} (h : TX x t) {p : Int} (hp : InR p) : p_X5_wordAt t p = some (x.W p) := by
  have hl := TX_len h
  unfold p_X5_wordAt
  rw [e_hasT hp (by omega), so_bd, hl.1]
  by_cases c : 0 ≤ p ∧ p < x.n
  · simp (disch := omega) only [ck_w, ix_of, ite_true, ite_false, if_pos, if_neg]
    rw [(TX_at h c).2.1]
  · simp (disch := omega) only [ck_w, ix_of, ite_true, ite_false, if_pos, if_neg]
    rw [(h.2.2.2.2.2 p c).2.1]
theorem e_placeAt {x : MT} {t : TxtS} (h : TX x t) {p : Int} (hp : InR p) : p_X5_placeAt t p = some (x.P p) := by
  have hl := TX_len h
  unfold p_X5_placeAt
  rw [e_hasT hp (by omega), so_bd, hl.1]
  by_cases c : 0 ≤ p ∧ p < x.n
  · simp (disch := omega) only [ck_w, ix_of, ite_true, ite_false, if_pos, if_neg]
    rw [(TX_at h c).2.2.1]
  · simp (disch := omega) only [ck_w, ix_of, ite_true, ite_false, if_pos, if_neg]
    rw [(h.2.2.2.2.2 p c).2.2.1]
theorem e_lettersFrom {x : MT} {t : TxtS} (h : TX x t) {p : Int} (hp : InR p) : p_X5_lettersFrom t p = some (x.R p) := by
  have hl := TX_len h
  unfold p_X5_lettersFrom
  rw [e_hasT hp (by omega), so_bd, hl.1]
  by_cases c : 0 ≤ p ∧ p < x.n
  · simp (disch := omega) only [ck_w, ix_of, ite_true, ite_false, if_pos, if_neg]
    rw [(TX_at h c).2.2.2]
  · simp (disch := omega) only [ck_w, ix_of, ite_true, ite_false, if_pos, if_neg]
    rw [(h.2.2.2.2.2 p c).2.2.2]
theorem e_lengthT {x : MT} {t : TxtS} (h : TX x t) : p_X5_length t = some x.n := by unfold p_X5_length; rw [(TX_len h).1]
theorem e_sharedFrom {n : Nat} (hn : 1000 ≤ n) {x y : MT} {t u : TxtS} (h : TX x t) (k : TX y u) {p q : Int} (hp : -1000 ≤ p ∧ p ≤ 1000) (hq : -1000 ≤ q ∧ q ≤ 1000) : p_X5_sharedFromn n t u p q = some (lc x p y q) := by
  have hx := h.2
  have hy := k.2
  have r1 := R_nn hx p
  have r2 := R_nn hy q
  have r3 := R_le hx p
  have r4 := R_le hy q
  unfold p_X5_sharedFromn
  rw [e_lettersFrom h (by omega), e_lettersFrom k (by omega), so_bd, so_bd, ck_w (by omega), ck_w (by omega)]
  have key : Ok (lp (p_X5_sharedFromn_b18 n t u p q (min (x.R p) (y.R q))) n 0) (fun r => Sum.elim (fun a => a) (fun _ => min (x.R p) (y.R q)) r = lc x p y q) := by
    refine ok_lpI (fun z => (0 ≤ z ∧ z ≤ min (x.R p) (y.R q)) ∧ ∀ i, 0 ≤ i → i < z → x.L (p + i) = y.L (q + i)) (fun z => min (x.R p) (y.R q) - z) ?_ n 0 ⟨by omega, fun i a b => by omega⟩ (by omega)
    rintro z ⟨hz, hs⟩
    refine ⟨by omega, ?_⟩
    unfold p_X5_sharedFromn_b18
    rw [ck_w (by omega), ck_w (by omega)]
    have l1 := L_in hx (p + z)
    have l2 := L_in hy (q + z)
    refine ok_ite (fun c => ?_) (fun c => ?_)
    · rw [e_letterAt h (by omega), e_letterAt k (by omega), so_bd, so_bd, ck_w (by omega), ck_w (by omega)]
      refine ok_ite (fun d => ?_) (fun d => ?_)
      · refine ok_so ⟨⟨by omega, fun i a b => ?_⟩, by omega⟩
        by_cases e : i = z
        · rw [e]; exact d
        · exact hs i a (by omega)
      · refine ok_so ?_
        show z = _
        exact (lc_un hx hy hz.1 ⟨by omega, by omega, hs⟩ (Or.inr (Or.inr d))).symm
    · refine ok_so ?_
      show min (x.R p) (y.R q) = _
      have ez : z = min (x.R p) (y.R q) := by omega
      refine (lc_un hx hy (by omega) ⟨by omega, by omega, by rw [← ez]; exact hs⟩ ?_).symm
      by_cases e : x.R p ≤ y.R q
      · exact Or.inl (by omega)
      · exact Or.inr (Or.inl (by omega))
  obtain ⟨r, e1, e2⟩ := key
  rw [e1, so_bd]
  cases r with
  | inl a => show some a = _; rw [← e2]; rfl
  | inr a => show some (min (x.R p) (y.R q)) = _; rw [← e2]; rfl
theorem shared_al (n : Nat) (t : TxtS) (p q : Int) : p_X5_sharedFroma n t p q = p_X5_sharedFromn n t t p q := rfl
theorem adv_al (n : Nat) (s : SwpS) (t : TxtS) (p q : Int) : p_X4_advancea n s t p q = p_X4_advancen n s t t p q := rfl
/-- what stands behind p comes before what stands behind q -/
def Bf (x : MT) (p q : Int) : Prop := (lc x p x q = x.R p ∧ x.R p < x.R q) ∨ (lc x p x q < x.R p ∧ lc x p x q < x.R q ∧ x.L (p + lc x p x q) < x.L (q + lc x p x q))
theorem e_comesBefore {n : Nat} (hn : 1000 ≤ n) {x : MT} {t : TxtS} (h : TX x t) {p q : Int} (hp : -1000 ≤ p ∧ p ≤ 1000) (hq : -1000 ≤ q ∧ q ≤ 1000) : (Bf x p q → p_X5_comesBefore n t p q = some 1) ∧ (¬ Bf x p q → p_X5_comesBefore n t p q = some 0) := by
  have hx := h.2
  have r1 := R_nn hx p
  have r2 := R_nn hx q
  have r3 := R_le hx p
  have r4 := R_le hx q
  have l0 := lc_nn hx hx p q
  have l1 := lc_le hx hx p q
  have e1 : p_X5_sharedFroma n t p q = some (lc x p x q) := by rw [shared_al]; exact e_sharedFrom hn h h hp hq
  have e2 := e_lettersFrom h (p := p) (by omega)
  have e3 := e_lettersFrom h (p := q) (by omega)
  have e4 := e_letterAt h (p := p + lc x p x q) (by omega)
  have e5 := e_letterAt h (p := q + lc x p x q) (by omega)
  have g1 := L_in hx (p + lc x p x q)
  have g2 := L_in hx (q + lc x p x q)
  unfold p_X5_comesBefore p_X5_comesBefore_j26
  unfold Bf
  by_cases c : lc x p x q = x.R p
  · by_cases d : x.R p < x.R q
    · exact ⟨fun _ => by simp (disch := omega) only [e1, e2, e3, so_bd, ck_w, ite_true, ite_false, if_pos, if_neg], fun b => absurd (Or.inl ⟨c, d⟩) b⟩
    · exact ⟨fun b => by omega, fun _ => by simp (disch := omega) only [e1, e2, e3, so_bd, ck_w, ite_true, ite_false, if_pos, if_neg]⟩
  · by_cases d : lc x p x q = x.R q
    · exact ⟨fun b => by omega, fun _ => by simp (disch := omega) only [e1, e2, e3, so_bd, ck_w, ite_true, ite_false, if_pos, if_neg]⟩
    · by_cases f : x.L (p + lc x p x q) < x.L (q + lc x p x q)
      · exact ⟨fun _ => by simp (disch := omega) only [e1, e2, e3, e4, e5, so_bd, ck_w, ite_true, ite_false, if_pos, if_neg], fun b => absurd (Or.inr ⟨by omega, by omega, f⟩) b⟩
      · exact ⟨fun b => by omega, fun _ => by simp (disch := omega) only [e1, e2, e3, e4, e5, so_bd, ck_w, ite_true, ite_false, if_pos, if_neg]⟩
def LI {σ ρ : Type} (I : σ → Prop) (μ : σ → Int) (m : Int) (Q : ρ → Prop) : σ ⊕ ρ → Prop
  | .inl z => I z ∧ μ z < m
  | .inr r => Q r
theorem ok_lpJ {σ ρ : Type} {body : σ → Option (σ ⊕ ρ)} {Q : ρ → Prop} (I : σ → Prop) (μ : σ → Int) (st : ∀ z, I z → 0 ≤ μ z ∧ Ok (body z) (LI I μ (μ z) Q)) (n : Nat) (z : σ) (hI : I z) (hm : μ z < n) : Ok (lp body n z) Q := by
  refine ok_lpI I μ (fun z h => ?_) n z hI hm
  obtain ⟨h0, x, e, k⟩ := st z h
  refine ⟨h0, x, e, ?_⟩
  cases x with
  | inl z' => exact k
  | inr r => exact k
/-- the sweep -/
def Att (x y : MT) (e b v : Int) : Prop := v = 0 ∨ ∃ i, (0 ≤ i ∧ i < b) ∧ cs x e y i = v
def advI (x y : MT) (S : Row) (e b : Int) (z : Int × Int × Row) : Prop := (-1 ≤ z.2.1 ∧ z.2.1 < b) ∧ (∀ i, z.2.1 < i → i < b → z.2.2 i = cs x e y i ∧ z.2.2 i ≤ z.1) ∧ (∀ i, ¬ (z.2.1 < i ∧ i < b) → z.2.2 i = S i) ∧ 0 ≤ z.1 ∧ z.1 ≤ 60 ∧ Att x y e b z.1
def advQ (x y : MT) (S : Row) (e b : Int) (r : Int × Row) : Prop := (∀ i, 0 ≤ i → i < b → r.2 i = cs x e y i ∧ r.2 i ≤ r.1) ∧ (∀ i, ¬ (0 ≤ i ∧ i < b) → r.2 i = S i) ∧ 0 ≤ r.1 ∧ r.1 ≤ 60 ∧ Att x y e b r.1
theorem e_advance {n : Nat} (hn : 1000 ≤ n) {x y : MT} {t u : TxtS} (h : TX x t) (k : TX y u) {S : SwpS} {e b : Int} (he : 0 ≤ e ∧ e < x.n) (hb : 0 ≤ b ∧ b ≤ y.n)
    (hS : 0 < x.P e → ∀ i, 0 ≤ i → i + 1 < b → S i = cs x (e - 1) y i) : Ok (p_X4_advancen n S t u e b) (advQ x y S e b) := by
  have hx := h.2
  have hy := k.2
  have hl := TX_len k
  have hxl := TX_len h
  have hpe := P_in hx e
  have hle := L_in hx e
  unfold p_X4_advancen
  rw [e_letterAt h (by omega), e_placeAt h (by omega), so_bd, so_bd, ck_w (by omega)]
  have key : ∀ g : Int, (g = 1 ∧ 0 < x.P e) ∨ (g = 0 ∧ ¬ 0 < x.P e) → Ok (p_X4_advancen_j20 n u S b (x.L e) g) (advQ x y S e b) := by
    intro g hg
    unfold p_X4_advancen_j20
    rw [hl.1, ck_w (by omega), ck_w (by omega), ck_w (by omega)]
    refine ok_bd (P := advQ x y S e b) ?_ (fun r q => ok_so q)
    refine ok_lpJ (advI x y S e b) (fun z => z.2.1 + 1) ?_ n _ ?_ ?_
    · rintro ⟨best, i, A⟩ ⟨hi, h1, h2, h3, h4, h5⟩
      dsimp only at hi h1 h2 h3 h4 h5 ⊢
      refine ⟨by omega, ?_⟩
      unfold p_X4_advancen_b43
      dsimp only
      rw [ck_w (by omega)]
      refine ok_ite (fun c => ?_) (fun c => ?_)
      · exact ok_so ⟨fun j a b => h1 j (by omega) b, fun j a => h2 j (by omega), h3, h4, h5⟩
      · have hat := TX_at k (p := i) ⟨by omega, by omega⟩
        have hli := L_in hy i
        have hpi := P_in hy i
        have hst := cs_step hx hy he (d := i) ⟨by omega, by omega⟩
        have hcn := cs_nn hx hy e i
        have hcl := cs_le hx hy e i
        rw [ix_of (by omega), hat.1, hat.2.2.1, ck_w (by omega), ck_w (by omega)]
        -- every way ends with the length at this letter
        have fin : ∀ v, v = cs x e y i → Ok (p_X4_advancen_j100 n A best i v) (LI (advI x y S e b) (fun z => z.2.1 + 1) (i + 1) (advQ x y S e b)) := by
          intro v hv
          unfold p_X4_advancen_j100
          rw [ix_of (by omega), ck_w (by omega), ck_w (by omega)]
          refine ok_ite (fun d => ?_) (fun d => ?_)
          · refine ok_so ⟨⟨by dsimp only; omega, fun j a r => ?_, fun j a => ?_, by dsimp only; omega, by dsimp only; omega, Or.inr ⟨i, by omega, hv.symm⟩⟩, by dsimp only; omega⟩
            · dsimp only at a ⊢
              by_cases q : j = i
              · rw [q, up_s]; exact ⟨hv, Int.le_refl _⟩
              · rw [up_n _ _ q]; have := h1 j (by omega) r; exact ⟨this.1, by omega⟩
            · dsimp only at a ⊢
              rw [up_n _ _ (by omega)]; exact h2 j (by omega)
          · refine ok_so ⟨⟨by dsimp only; omega, fun j a r => ?_, fun j a => ?_, h3, h4, h5⟩, by dsimp only; omega⟩
            · dsimp only at a ⊢
              by_cases q : j = i
              · rw [q, up_s]; exact ⟨hv, by omega⟩
              · rw [up_n _ _ q]; exact h1 j (by omega) r
            · dsimp only at a ⊢
              rw [up_n _ _ (by omega)]; exact h2 j (by omega)
        refine ok_ite (fun d => ?_) (fun d => ?_)
        · rw [if_pos d.symm] at hst
          rw [ck_w (by omega)]
          refine ok_ite (fun f => ?_) (fun f => ?_)
          · unfold p_X4_advancen_j97 p_X4_advancen_j98
            exact fin 1 (by rw [hst, if_neg (by omega)])
          · refine ok_ite (fun q => ?_) (fun q => ?_)
            · rw [ck_w (by omega)]
              refine ok_ite (fun r => ?_) (fun r => ?_)
              · rw [ix_of (by omega)]
                unfold p_X4_advancen_j98
                refine fin _ ?_
                rw [hst, if_pos (by omega), h2 (i - 1) (by omega), hS (by omega) (i - 1) (by omega) (by omega)]
              · unfold p_X4_advancen_j97 p_X4_advancen_j98
                exact fin 1 (by rw [hst, if_neg (by omega)])
            · unfold p_X4_advancen_j97 p_X4_advancen_j98
              have := (hy.2.1 i (by omega) (by omega))
              exact fin 1 (by rw [hst, if_neg (by omega)])
        · rw [if_neg (fun q => d q.symm)] at hst
          exact fin 0 hst.symm
    · refine ⟨by dsimp only; omega, fun i a r => ?_, fun i _ => rfl, by dsimp only; omega, by dsimp only; omega, Or.inl rfl⟩
      dsimp only at a
      omega
    · dsimp only; omega
  refine ok_ite (fun c => key 1 (Or.inl ⟨rfl, c⟩)) (fun c => key 0 (Or.inr ⟨rfl, c⟩))
