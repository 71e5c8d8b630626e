/-! the pattern -/
def pm (P : PadS) : MT := (P.size, mk P.size (fun i => P.characters i - 97), mk P.size (fun _ => 0), mk P.size (fun i => i), mk P.size (fun i => P.size - i))
def PatOk (P : PadS) : Prop := (1 ≤ P.size ∧ P.size ≤ 60) ∧ ∀ i, 0 ≤ i → i < P.size → 97 ≤ P.characters i ∧ P.characters i ≤ 104
theorem pm_at {P : PadS} {i : Int} (h : 0 ≤ i ∧ i < P.size) : (pm P).L i = P.characters i - 97 ∧ (pm P).P i = i ∧ (pm P).R i = P.size - i := by
  show mk P.size (fun i => P.characters i - 97) i = _ ∧ mk P.size (fun i => i) i = _ ∧ mk P.size (fun i => P.size - i) i = _
  rw [mk_in _ h, mk_in _ h, mk_in _ h]
  exact ⟨rfl, rfl, rfl⟩
theorem pm_ok {P : PadS} (h : PatOk P) : MOk (pm P) := by
  obtain ⟨h1, h2⟩ := h
  refine ⟨by show 0 ≤ P.size ∧ P.size ≤ 60; omega, fun p a c => ?_, fun p i a c d e => ?_, fun p i a c d e => ?_, fun p c => ?_⟩
  · have c : p < P.size := c
    have := h2 p a c
    show 0 ≤ mk P.size (fun i => P.characters i - 97) p ∧ mk P.size (fun i => P.characters i - 97) p ≤ 7 ∧ 0 ≤ mk P.size (fun _ => 0) p ∧ mk P.size (fun _ => 0) p < 6 ∧ 0 ≤ mk P.size (fun i => i) p ∧ mk P.size (fun i => i) p ≤ p ∧ 1 ≤ mk P.size (fun i => P.size - i) p ∧ p + mk P.size (fun i => P.size - i) p ≤ P.size
    rw [mk_in _ ⟨a, c⟩, mk_in _ ⟨a, c⟩, mk_in _ ⟨a, c⟩, mk_in _ ⟨a, c⟩]
    omega
  · have c : p < P.size := c
    have e : i < mk P.size (fun i => P.size - i) p := e
    rw [mk_in _ ⟨a, c⟩] at e
    have g : 0 ≤ p + i ∧ p + i < P.size := by omega
    show mk P.size (fun _ => 0) (p + i) = mk P.size (fun _ => 0) p ∧ mk P.size (fun i => i) (p + i) = mk P.size (fun i => i) p + i ∧ mk P.size (fun i => P.size - i) (p + i) = mk P.size (fun i => P.size - i) p - i
    rw [mk_in _ g, mk_in _ g, mk_in _ g, mk_in _ ⟨a, c⟩, mk_in _ ⟨a, c⟩, mk_in _ ⟨a, c⟩]
    omega
  · have c : p < P.size := c
    have e : i ≤ mk P.size (fun i => i) p := e
    rw [mk_in _ ⟨a, c⟩] at e
    have g : 0 ≤ p - i ∧ p - i < P.size := by omega
    show mk P.size (fun _ => 0) (p - i) = mk P.size (fun _ => 0) p ∧ mk P.size (fun i => i) (p - i) = mk P.size (fun i => i) p - i ∧ mk P.size (fun i => P.size - i) (p - i) = mk P.size (fun i => P.size - i) p + i
    rw [mk_in _ g, mk_in _ g, mk_in _ g, mk_in _ ⟨a, c⟩, mk_in _ ⟨a, c⟩, mk_in _ ⟨a, c⟩]
    omega
  · have c : ¬ (0 ≤ p ∧ p < P.size) := c
    show mk P.size (fun i => P.characters i - 97) p = 0 ∧ mk P.size (fun _ => 0) p = 0 ∧ mk P.size (fun i => i) p = 0 ∧ mk P.size (fun i => P.size - i) p = 0
    exact ⟨mk_out _ c, mk_out _ c, mk_out _ c, mk_out _ c⟩
/-- one word of a length -/
def OneW (L : Int) (t : TxtS) : Prop := t.length = L ∧ t.version = -1 ∧ ∀ i, 0 ≤ i → i < L → t.words i = 0 ∧ t.places i = i ∧ t.rests i = L - i
theorem e_one {n : Nat} (hn : 1000 ≤ n) {t : TxtS} {L : Int} (hL : 0 ≤ L ∧ L ≤ 60) : Ok (p_X5_becomeOneWord n t L) (OneW L) := by
  unfold p_X5_becomeOneWord
  rw [ck_w (by omega), ck_w (by omega), show max 0 (min L 60) = L by omega]
  refine ok_bd (P := fun r => ∀ i, 0 ≤ i → i < L → r.1 i = 0 ∧ r.2.1 i = i ∧ r.2.2 i = L - i) ?_ (fun r q => ok_so ⟨rfl, rfl, q⟩)
  refine ok_lpJ (fun z => (0 ≤ z.1 ∧ z.1 ≤ L) ∧ ∀ i, 0 ≤ i → i < z.1 → z.2.1 i = 0 ∧ z.2.2.1 i = i ∧ z.2.2.2 i = L - i) (fun z => L - z.1) ?_ n _ ?_ ?_
  · rintro ⟨i, A, B, C⟩ ⟨hi, hA⟩
    dsimp only at hi hA ⊢
    refine ⟨by omega, ?_⟩
    unfold p_X5_becomeOneWord_b33
    show Ok (ck i (ck L (if i < L then ix i 60 (some (Sum.inl (i + 1, up A i 0, up B i i, up C i (L - i)))) else some (Sum.inr (A, B, C))))) _
    rw [ck_w (by omega), ck_w (by omega)]
    refine ok_ite (fun c => ?_) (fun c => ?_)
    · rw [ix_of (by omega)]
      refine ok_so ⟨⟨by dsimp only; omega, fun j u v => ?_⟩, by dsimp only; omega⟩
      dsimp only at v ⊢
      by_cases e : j = i
      · rw [e, up_s, up_s, up_s]; exact ⟨rfl, rfl, rfl⟩
      · rw [up_n _ _ e, up_n _ _ e, up_n _ _ e]; exact hA j u (by omega)
    · exact ok_so (fun j u v => hA j u (by omega))
  · exact ⟨by dsimp only; omega, fun j u v => absurd v (by dsimp only; omega)⟩
  · dsimp only; omega
theorem e_takePattern {n : Nat} (hn : 1000 ≤ n) {t : TxtS} {P : PadS} (h : PatOk P) : Ok (p_X5_takePattern n t P) (fun q => TX (pm P) q ∧ q.version = -1) := by
  obtain ⟨h1, h2⟩ := id h
  unfold p_X5_takePattern p_X3_size
  rw [so_bd]
  refine ok_bd (e_one hn (by omega)) (fun T hT => ?_)
  obtain ⟨t1, t2, t3⟩ := hT
  refine ok_bd (P := fun A => ∀ i, 0 ≤ i → i < P.size → A i = P.characters i - 97) ?_ ?_
  · refine ok_lpJ (fun z => (0 ≤ z.1 ∧ z.1 ≤ P.size) ∧ ∀ i, 0 ≤ i → i < z.1 → z.2 i = P.characters i - 97) (fun z => P.size - z.1) ?_ n _ ?_ ?_
    · rintro ⟨i, A⟩ ⟨hi, hA⟩
      dsimp only at hi hA ⊢
      refine ⟨by omega, ?_⟩
      unfold p_X5_takePattern_b10
      dsimp only
      rw [t1, ck_w (by omega), ck_w (by omega)]
      refine ok_ite (fun c => ?_) (fun c => ?_)
      · rw [e_characterAt ⟨hi.1, c⟩ h1.2, so_bd, ix_of (by omega)]
        refine ok_so ⟨⟨by dsimp only; omega, fun j u v => ?_⟩, by dsimp only; omega⟩
        dsimp only at v ⊢
        by_cases e : j = i
        · rw [e, up_s]
        · rw [up_n _ _ e]; exact hA j u (by omega)
      · exact ok_so (fun j u v => hA j u (by omega))
    · exact ⟨by dsimp only; omega, fun j u v => absurd v (by dsimp only; omega)⟩
    · dsimp only; omega
  · intro A hA
    refine ok_so ⟨⟨?_, pm_ok h⟩, t2⟩
    show (T.length, mk T.length A, mk T.length T.words, mk T.length T.places, mk T.length T.rests) = _
    rw [t1]
    unfold pm
    rw [mk_cg hA, mk_cg (fun p a b => (t3 p a b).1), mk_cg (fun p a b => (t3 p a b).2.1), mk_cg (fun p a b => (t3 p a b).2.2)]
/-- reading the pattern, on both sides -/
theorem s_read {n : Nat} (hn : 1000 ≤ n) {P : PadS} {M : MpS} {Q : TxtS} (h : PR P M) : (∃ Q', p_X6_readPattern n P Q = some (1, Q') ∧ p_X7_isPattern n M = some 1 ∧ PatOk P ∧ TX (pm P) Q' ∧ Q'.version = -1) ∨ (p_X6_readPattern n P Q = some (0, Q) ∧ p_X7_isPattern n M = some 0) := by
  obtain ⟨r, e1, e2, e3, e4, e5⟩ := s_fp hn h
  unfold p_X6_readPattern p_X7_isPattern
  rw [e1, e2, so_bd, so_bd, ck_w (by omega), ck_w (by omega)]
  by_cases c : r = -6
  · obtain ⟨q1, q2⟩ := e5 c
    have hp : PatOk P := ⟨⟨q1, h.2.1.2⟩, q2⟩
    obtain ⟨Q', f1, f2⟩ := e_takePattern hn (t := Q) hp
    rw [if_pos c, if_pos c, f1]
    exact Or.inl ⟨Q', rfl, rfl, hp, f2.1, f2.2⟩
  · rw [if_neg c, if_neg c]
    exact Or.inr ⟨rfl, rfl⟩
/-- the pattern ends at e -/
theorem e_hasEnd {n : Nat} (hn : 1000 ≤ n) {x y : MT} {t u : TxtS} (h : TX x t) (k : TX y u) (hy : 1 ≤ y.n) (hr : y.R 0 = y.n ∧ ∀ i, 0 ≤ i → i < y.n → y.P i = i) {e : Int} (he : 0 ≤ e ∧ e < x.n) : (Sm x (e - y.n + 1) y 0 y.n → p_X5_hasEnd n t u e = some 1) ∧ (¬ Sm x (e - y.n + 1) y 0 y.n → p_X5_hasEnd n t u e = some 0) := by
  have hx := h.2
  have hyo := k.2
  have lx := TX_len h
  have ly := TX_len k
  have hpe := P_in hx e
  have iff := cs_iff hx hyo he (d := y.n - 1) (l := y.n) ⟨by omega, by omega⟩ hy
  rw [show y.n - 1 - y.n + 1 = 0 by omega] at iff
  have iff0 := cs_iff0 hx hyo (p := e) (q := y.n - 1) (l := y.n) (by omega)
  have e1 := e_hasT (t := t) (p := e) (by omega) (by omega)
  have e2 := e_placeAt h (p := e) (by omega)
  have e3 := e_lengthT k
  unfold p_X5_hasEnd
  rw [e1, so_bd, if_pos (by omega), ck_w (by omega), if_neg (by omega), e2, so_bd, e3, so_bd, ck_w (by omega), ck_w (by omega), so_bd]
  by_cases c : x.P e + 1 < y.n
  · rw [if_pos c]
    refine ⟨fun s => ?_, fun _ => rfl⟩
    have := (iff0.mp (iff.mpr s)).1
    omega
  · rw [if_neg c]
    have key : Ok (lp (p_X5_hasEnd_b34 n t u e (y.n - 1)) n 0) (fun r => (r = .inr () ∧ ∀ i, 0 ≤ i → i < y.n → x.L (e - i) = y.L (y.n - 1 - i)) ∨ (r = .inl 0 ∧ ∃ i, (0 ≤ i ∧ i < y.n) ∧ x.L (e - i) ≠ y.L (y.n - 1 - i))) := by
      refine ok_lpJ (fun z => (0 ≤ z ∧ z ≤ y.n) ∧ ∀ i, 0 ≤ i → i < z → x.L (e - i) = y.L (y.n - 1 - i)) (fun z => y.n - z) ?_ n 0 ⟨by omega, fun i a b => by omega⟩ (by omega)
      rintro z ⟨hz, hs⟩
      refine ⟨by omega, ?_⟩
      unfold p_X5_hasEnd_b34
      rw [ck_w (by omega), ck_w (by omega)]
      have l1 := L_in hx (e - z)
      have l2 := L_in hyo (y.n - 1 - z)
      refine ok_ite (fun d => ?_) (fun d => ?_)
      · exact ok_so (Or.inl ⟨rfl, fun i a b => hs i a (by omega)⟩)
      · rw [e_letterAt h (by omega), so_bd, e_letterAt k (by omega), so_bd, ck_w (by omega), ck_w (by omega)]
        refine ok_ite (fun g => ?_) (fun g => ?_)
        · refine ok_so ⟨⟨by omega, fun i a b => ?_⟩, by dsimp only; omega⟩
          by_cases q : i = z
          · rw [q]; exact g
          · exact hs i a (by omega)
        · exact ok_so (Or.inr ⟨rfl, z, by omega, g⟩)
    obtain ⟨r, f1, f2⟩ := key
    rw [f1, so_bd]
    rcases f2 with ⟨rfl, f2⟩ | ⟨rfl, i, hi, f2⟩
    · refine ⟨fun _ => rfl, fun s => absurd (iff.mp (iff0.mpr ⟨by omega, ?_, f2⟩)) s⟩
      have := hr.2 (y.n - 1) (by omega) (by omega); omega
    · refine ⟨fun s => ?_, fun _ => rfl⟩
      exact absurd ((iff0.mp (iff.mpr s)).2.2 i hi.1 hi.2) f2
theorem pm_r {P : PadS} (h : PatOk P) : (pm P).n = P.size ∧ (pm P).R 0 = (pm P).n ∧ ∀ i, 0 ≤ i → i < (pm P).n → (pm P).P i = i := by
  refine ⟨rfl, ?_, fun i a b => (pm_at ⟨a, b⟩).2.1⟩
  rw [(pm_at (P := P) (i := 0) ⟨by omega, by have := h.1; omega⟩).2.2]
  show P.size - 0 = P.size
  omega
/-- the reference: the pattern stands at p -/
theorem e_stands {n : Nat} (hn : 1000 ≤ n) {x : MT} {m : MtS} (h : MX 0 x m) {P : PadS} {M : MpS} (hp : PR P M) (hP : PatOk P) {p f l : Int} (hq : 0 ≤ p ∧ p < x.n) (hf : 0 ≤ f ∧ 0 ≤ l ∧ f + l ≤ P.size) (hf1 : f < P.size) : (Sm x p (pm P) f l → p_X7_stands n M m p f l = some 1) ∧ (¬ Sm x p (pm P) f l → p_X7_stands n M m p f l = some 0) := by
  have hx := h.1
  obtain ⟨h1, h2, h3⟩ := id hp
  have hr := hx.2.1 p hq.1 hq.2
  have nn := hx.1
  have rf := (pm_at (P := P) (i := f) ⟨hf.1, hf1⟩).2.2
  unfold p_X7_stands
  rw [e_rest (Or.inl rfl) h hq, so_bd, ck_w (by omega), ck_w (by omega)]
  have key : ∀ b : Int, (b = 0 ∨ b = 1) → (b = 1 → l ≤ x.R p) → Ok (lp (p_X7_stands_b20 n M m p f l) n (b, 0)) (fun r => (r = 1 ∧ b = 1 ∧ ∀ i, 0 ≤ i → i < l → x.L (p + i) = (pm P).L (f + i)) ∨ (r = 0 ∧ (b = 0 ∨ ∃ i, (0 ≤ i ∧ i < l) ∧ x.L (p + i) ≠ (pm P).L (f + i)))) := by
    intro b hb hb2
    refine ok_lpJ (fun z => (0 ≤ z.2 ∧ z.2 ≤ l) ∧ ((z.1 = 1 ∧ b = 1 ∧ ∀ i, 0 ≤ i → i < z.2 → x.L (p + i) = (pm P).L (f + i)) ∨ (z.1 = 0 ∧ (b = 0 ∨ ∃ i, (0 ≤ i ∧ i < l) ∧ x.L (p + i) ≠ (pm P).L (f + i))))) (fun z => l - z.2) ?_ n _ ?_ (by dsimp only; omega)
    · rintro ⟨s, i⟩ ⟨hi, hs⟩
      dsimp only at hi hs ⊢
      refine ⟨by omega, ?_⟩
      unfold p_X7_stands_b20
      dsimp only
      rw [ck_w (by omega), ck_w (by omega)]
      refine ok_ite (fun c => ?_) (fun c => ?_)
      · rcases hs with ⟨rfl, hb1, hs⟩ | ⟨rfl, hs⟩
        · have := hb2 hb1
          have l1 := L_in hx (p + i)
          have ch := h3 (f + i) (by omega) (by omega)
          have pl := (pm_at (P := P) (i := f + i) ⟨by omega, by omega⟩).1
          rw [ck_w (by omega), if_neg (by omega), e_mletterAt h ⟨by omega, by omega⟩, so_bd, ix_of (by omega), ch.1, ck_w (by omega), ck_w (by omega)]
          refine ok_ite (fun d => ?_) (fun d => ?_)
          · refine ok_so ⟨⟨by dsimp only; omega, Or.inl ⟨rfl, hb1, fun j u v => ?_⟩⟩, by dsimp only; omega⟩
            dsimp only at v
            by_cases e : j = i
            · rw [e, pl]; exact d
            · exact hs j u (by omega)
          · exact ok_so ⟨⟨by dsimp only; omega, Or.inr ⟨rfl, Or.inr ⟨i, by omega, by rw [pl]; exact d⟩⟩⟩, by dsimp only; omega⟩
        · rw [ck_w (by omega), if_pos rfl]
          exact ok_so (Or.inr ⟨rfl, hs⟩)
      · rcases hs with ⟨rfl, hb1, hs⟩ | ⟨rfl, hs⟩
        · exact ok_so (Or.inl ⟨rfl, hb1, fun j u v => hs j u (by omega)⟩)
        · exact ok_so (Or.inr ⟨rfl, hs⟩)
    · rcases hb with rfl | rfl
      · exact ⟨by dsimp only; omega, Or.inr ⟨rfl, Or.inl rfl⟩⟩
      · exact ⟨by dsimp only; omega, Or.inl ⟨rfl, rfl, fun i u v => absurd v (by dsimp only; omega)⟩⟩
  by_cases c : x.R p < l
  · rw [if_pos c]
    unfold p_X7_stands_j15
    obtain ⟨r, e1, e2⟩ := key 0 (Or.inl rfl) (fun q => by omega)
    rw [e1, so_bd]
    rcases e2 with ⟨e2, e3, -⟩ | ⟨rfl, -⟩
    · omega
    · exact ⟨fun s => by have := s.1; omega, fun _ => rfl⟩
  · rw [if_neg c]
    unfold p_X7_stands_j15
    obtain ⟨r, e1, e2⟩ := key 1 (Or.inr rfl) (fun q => by omega)
    rw [e1, so_bd]
    rcases e2 with ⟨rfl, e3, e4⟩ | ⟨rfl, e3⟩
    · exact ⟨fun _ => rfl, fun s => absurd ⟨by omega, by omega, e4⟩ s⟩
    · refine ⟨fun s => ?_, fun _ => rfl⟩
      rcases e3 with e3 | ⟨i, hi, e3⟩
      · omega
      · exact absurd (s.2.2 i hi.1 hi.2) e3
