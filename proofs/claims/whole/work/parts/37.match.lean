/-! matches and parts -/
section MA
variable {n : Nat} {x y : MT}
/-- the longest common end read off the sweep -/
theorem Fc_mx (hx : MOk x) (hy : MOk y) {S : SwpS} {e : Int} {r : Int × SwpS} (he : 0 ≤ e ∧ e < y.n) (h : advQ y x S e x.n r) {l : Int} (hl : 1 ≤ l) : Fc x y (e - l + 1) l ↔ l ≤ r.1 := by
  obtain ⟨a1, a2, a3, a4, a5⟩ := h
  constructor
  · rintro ⟨p, hp, s⟩
    have hr := (hx.2.1 p hp.1 hp.2).2.2.2.2.2.2.2
    have := s.1
    have hd : 0 ≤ p + l - 1 ∧ p + l - 1 < x.n := by omega
    have := (cs_iff hy hx he hd hl).mpr (by rw [show p + l - 1 - l + 1 = p by omega]; exact Sm_sy s)
    have := a1 (p + l - 1) hd.1 hd.2
    omega
  · intro q
    rcases a5 with a5 | ⟨i, hi, a5⟩
    · omega
    · have := (cs_iff hy hx he hi hl).mp (by omega)
      exact ⟨i - l + 1, Sm_in hx hl (Sm_sy this), Sm_sy this⟩
theorem Fc_le {f l k : Int} (h : Fc x y f l) (hk : k ≤ l) : Fc x y f k := by
  obtain ⟨p, hp, s⟩ := h
  exact ⟨p, hp, Sm_le s hk⟩
theorem lp_un {σ ρ : Type} {b : σ → Option (σ ⊕ ρ)} {k : Nat} {s t : σ} (h : b s = some (.inl t)) : lp b (k + 1) s = lp b k t := by
  show (b s).bind _ = _
  rw [h]; rfl
theorem lp_en {σ ρ : Type} {b : σ → Option (σ ⊕ ρ)} {k : Nat} {s : σ} {r : ρ} (h : b s = some (.inr r)) : lp b (k + 1) s = some r := by
  show (b s).bind _ = _
  rw [h]; rfl
end MA
section MB
variable {n : Nat} {x : MT} {m : MtS} {P : PadS} {M : MpS} {t u : TxtS} {S : SwpS}
def swOk (x y : MT) (S : SwpS) (e : Int) : Prop := 0 < e → ∀ i, 0 ≤ i → i < x.n → S i = cs y (e - 1) x i
/-- the component's matches loop: the sweep's last word -/
theorem e_matches (hn : 1000 ≤ n) (h : TX x t) (k : TX (pm P) u) (hP : PatOk P) {v : Int} (hv : 1 ≤ v ∧ v ≤ P.size) : Ok (lp (p_X6_matches_b37 n t u v) n (0, 0, S)) (fun r => (0 ≤ r.1 ∧ r.1 ≤ v) ∧ ∀ l, 1 ≤ l → (Fc x (pm P) (v - l) l ↔ l ≤ r.1)) := by
  have hx := h.2
  have hy := k.2
  have hP1 := hP.1
  have hs : (pm P).n = P.size := rfl
  refine ok_lpJ (fun z => (0 ≤ z.2.1 ∧ z.2.1 ≤ v) ∧ swOk x (pm P) z.2.2 z.2.1 ∧ (0 < z.2.1 → (0 ≤ z.1 ∧ z.1 ≤ z.2.1) ∧ ∀ l, 1 ≤ l → (Fc x (pm P) (z.2.1 - l) l ↔ l ≤ z.1))) (fun z => v - z.2.1) ?_ n _ ⟨by dsimp only; omega, fun a => by dsimp only at a; omega, fun a => by dsimp only at a; omega⟩ (by dsimp only; omega)
  rintro ⟨b, a, S⟩ ⟨ha, hS, hb⟩
  dsimp only at ha hS hb ⊢
  refine ⟨by omega, ?_⟩
  unfold p_X6_matches_b37
  dsimp only
  rw [ck_w (by omega), ck_w (by omega)]
  refine ok_ite (fun d => ?_) (fun d => ?_)
  · rw [e_lengthT h, so_bd]
    refine ok_bd (e_advance hn k h (S := S) (e := a) (b := x.n) (by omega) ⟨hx.1.1, by omega⟩ (fun c i i0 i1 => hS (by have := (hy.2.1 a ha.1 (by omega)).2.2.2.2.2.1; omega) i i0 (by omega))) ?_
    intro r hr
    have F := fun l (hl : 1 ≤ l) => Fc_mx hx hy (by omega : 0 ≤ a ∧ a < (pm P).n) hr hl
    have r0 := hr.2.2.1
    refine ok_so ⟨⟨by dsimp only; omega, ?_, ?_⟩, by dsimp only; omega⟩
    · intro c i i0 i1
      dsimp only at c ⊢
      rw [show a + 1 - 1 = a by omega]
      exact (hr.1 i i0 i1).1
    · intro c
      dsimp only
      refine ⟨⟨r0, ?_⟩, fun l hl => by rw [show a + 1 - l = a - l + 1 by omega]; exact F l hl⟩
      by_cases q : r.1 ≤ 0
      · omega
      · obtain ⟨p, hp, s⟩ := (F r.1 (by omega)).mpr (Int.le_refl _)
        have := R_in hy (p := a - r.1 + 1) (by have := s.2.1; omega)
        omega
  · obtain ⟨q1, q2⟩ := hb (by omega)
    rw [show a = v by omega] at q1 q2
    exact ok_so ⟨q1, q2⟩
/-- the reference's matches loop finds the same length -/
theorem e_mmatches (hn : 1000 ≤ n) (h : MX 0 x m) (hp : PR P M) (hP : PatOk P) {v r : Int} (hv : 1 ≤ v ∧ v ≤ P.size) (hr : 0 ≤ r ∧ r ≤ v) (hF : ∀ l, 1 ≤ l → (Fc x (pm P) (v - l) l ↔ l ≤ r)) : lp (p_X7_matches_b31 n M m v) n v = some r := by
  have hP1 := hP.1
  refine ok_eq (ok_lpJ (fun z => r ≤ z ∧ z ≤ v) (fun z => z) ?_ n _ ⟨by omega, by omega⟩ (by omega))
  rintro z ⟨a, b⟩
  refine ⟨by omega, ?_⟩
  unfold p_X7_matches_b31
  rw [ck_w (by omega)]
  refine ok_ite (fun d => ?_) (fun d => ?_)
  · obtain ⟨q1, q2⟩ := e_isFactor hn h hp hP (f := v - z) (l := z) (by omega) (by omega)
    by_cases w : Fc x (pm P) (v - z) z
    · rw [q1 w, so_bd, ck_w (by omega), if_neg (by omega)]
      have := (hF z (by omega)).mp w
      exact ok_so (show z = r by omega)
    · rw [q2 w, so_bd, ck_w (by omega), if_pos rfl]
      have : ¬ z ≤ r := fun c => w ((hF z (by omega)).mpr c)
      exact ok_so ⟨⟨by omega, by omega⟩, by dsimp only; omega⟩
  · exact ok_so (show z = r by omega)
/-- the reference's longest part from a place -/
theorem e_longest (hn : 1000 ≤ n) (h : MX 0 x m) (hp : PR P M) (hP : PatOk P) {f r : Int} (hf : 0 ≤ f ∧ f < P.size) (hr : 0 ≤ r ∧ r ≤ P.size - f) (h1 : 0 < r → Fc x (pm P) f r) (h2 : ∀ l, r < l → ¬ Fc x (pm P) f l) : lp (p_X7_parts_b33 n M m f) n (P.size - f) = some r := by
  have hP1 := hP.1
  refine ok_eq (ok_lpJ (fun z => r ≤ z ∧ z ≤ P.size - f) (fun z => z) ?_ n _ ⟨by omega, by omega⟩ (by omega))
  rintro z ⟨a, b⟩
  refine ⟨by omega, ?_⟩
  unfold p_X7_parts_b33
  rw [ck_w (by omega)]
  refine ok_ite (fun d => ?_) (fun d => ?_)
  · obtain ⟨q1, q2⟩ := e_isFactor hn h hp hP (f := f) (l := z) (by omega) (by omega)
    by_cases w : Fc x (pm P) f z
    · rw [q1 w, so_bd, ck_w (by omega), if_neg (by omega)]
      have : ¬ r < z := fun c => h2 z c w
      exact ok_so (show z = r by omega)
    · rw [q2 w, so_bd, ck_w (by omega), if_pos rfl]
      have : z ≠ r := fun c => w (by rw [c]; exact h1 (by omega))
      exact ok_so ⟨⟨by omega, by omega⟩, by dsimp only; omega⟩
  · exact ok_so (show z = r by omega)
theorem st_part (hn : 1000 ≤ n) (h : MX 0 x m) (hp : PR P M) (hP : PatOk P) {c f r : Int} (hf : 0 ≤ f ∧ f < P.size) (hr : 0 ≤ r ∧ r ≤ P.size - f) (h1 : 0 < r → Fc x (pm P) f r) (h2 : ∀ l, r < l → ¬ Fc x (pm P) f l) : p_X7_parts_b18 n M m (c, f) = if r = 0 then some (.inr (.inl ((-6), m))) else some (.inl (c + 1, f + r)) := by
  have hP1 := hP.1
  have hs : M.padMany = P.size := hp.1
  unfold p_X7_parts_b18
  dsimp only
  rw [hs, ck_w (by omega), ck_w (by omega), if_pos hf.2, e_longest hn h hp hP hf hr h1 h2, so_bd, ck_w (by omega)]
def ptI (n : Nat) (M : MpS) (m : MtS) (x : MT) (P : PadS) (z : Int × Int × Int × SwpS) : Prop :=
  (0 ≤ z.2.1 ∧ z.2.1 ≤ z.2.2.1 ∧ z.2.2.1 ≤ P.size ∧ (z.2.1 < z.2.2.1 ∨ z.2.2.1 = 0)) ∧ (1 ≤ z.1 ∧ z.1 ≤ z.2.2.1 + 1) ∧ swOk x (pm P) z.2.2.2 z.2.2.1 ∧ (z.2.1 < z.2.2.1 → Fc x (pm P) z.2.1 (z.2.2.1 - z.2.1)) ∧
  ∃ k : Nat, (n : Int) = k + z.1 - 1 ∧ lp (p_X7_parts_b18 n M m) k (z.1 - 1, z.2.1) = lp (p_X7_parts_b18 n M m) n (0, 0)
def ptQ (n : Nat) (M : MpS) (m : MtS) (t u : TxtS) : (Int × TxtS × TxtS × SwpS) ⊕ (Int × SwpS) → Prop
  | .inl q => q.1 = -6 ∧ q.2.1 = t ∧ q.2.2.1 = u ∧ lp (p_X7_parts_b18 n M m) n (0, 0) = some (.inl ((-6), m))
  | .inr q => InR q.1 ∧ lp (p_X7_parts_b18 n M m) n (0, 0) = some (.inr q.1)
theorem e_parts (hn : 1000 ≤ n) (h : TX x t) (k : TX (pm P) u) (hP : PatOk P) (hm : MX 0 x m) (hp : PR P M) : Ok (lp (p_X6_parts_b20 n t u) n (1, 0, 0, S)) (ptQ n M m t u) := by
  have hx := h.2
  have hy := k.2
  have hP1 := hP.1
  have hs : (pm P).n = P.size := rfl
  have hs2 : M.padMany = P.size := hp.1
  refine ok_lpJ (ptI n M m x P) (fun z => P.size - z.2.2.1) ?_ n _ ⟨by dsimp only; omega, by dsimp only; omega, fun a => by dsimp only at a; omega, fun a => by dsimp only at a; omega, n, by dsimp only; omega, rfl⟩ (by dsimp only; omega)
  rintro ⟨c, b, a, S⟩ ⟨ha, hc, hS, hb, K, hK, hL⟩
  dsimp only at ha hc hS hb hK hL ⊢
  refine ⟨by omega, ?_⟩
  unfold p_X6_parts_b20
  dsimp only
  rw [e_lengthT k, so_bd, ck_w (by omega), ck_w (by omega)]
  refine ok_ite (fun d => ?_) (fun d => ?_)
  · rw [e_lengthT h, so_bd]
    refine ok_bd (e_advance hn k h (S := S) (e := a) (b := x.n) (by omega) ⟨hx.1.1, by omega⟩ (fun c i i0 i1 => hS (by have := (hy.2.1 a (by omega) (by omega)).2.2.2.2.2.1; omega) i i0 (by omega))) ?_
    intro r hr
    have F := fun l (hl : 1 ≤ l) => Fc_mx hx hy (by omega : 0 ≤ a ∧ a < (pm P).n) hr hl
    have r0 := hr.2.2.1
    have r1 := hr.2.2.2.1
    have sw : swOk x (pm P) r.2 (a + 1) := by
      intro c i i0 i1
      rw [show a + 1 - 1 = a by omega]
      exact (hr.1 i i0 i1).1
    rw [ck_w (by omega)]
    -- the model's step from the part begun to here, when the part cannot be longer
    have hop : b < a → r.1 < a - b + 1 → ∃ K' : Nat, (n : Int) = K' + c ∧ lp (p_X7_parts_b18 n M m) K' (c, a) = lp (p_X7_parts_b18 n M m) n (0, 0) := by
      intro e1 e2
      have no : ¬ Fc x (pm P) b (a - b + 1) := fun q => by
        have := (F (a - b + 1) (by omega)).mp (by rw [show a - (a - b + 1) + 1 = b by omega]; exact q)
        omega
      have := st_part hn hm hp hP (c := c - 1) (f := b) (r := a - b) (by omega) (by omega) (fun _ => hb e1) (fun l hl q => no (Fc_le q (by omega)))
      rw [if_neg (by omega), show c - 1 + 1 = c by omega, show b + (a - b) = a by omega] at this
      refine ⟨K - 1, by omega, ?_⟩
      rw [← hL, show K = K - 1 + 1 by omega, lp_un this, show K - 1 + 1 - 1 = K - 1 by omega]
    refine ok_ite (fun e => ?_) (fun e => ?_)
    · have no : ∀ l, 0 < l → ¬ Fc x (pm P) a l := fun l hl q => by
        have := (F 1 (by omega)).mp (by rw [show a - 1 + 1 = a by omega]; exact Fc_le q (by omega))
        omega
      have fin : ∀ K' : Nat, 0 < K' → ∀ c', lp (p_X7_parts_b18 n M m) K' (c', a) = some (.inl ((-6), m)) := by
        intro K' hK' c'
        have := st_part hn hm hp hP (c := c') (f := a) (r := 0) (by omega) (by omega) (fun q => by omega) no
        rw [if_pos rfl] at this
        rw [show K' = K' - 1 + 1 by omega, lp_en this]
      refine ok_so ⟨rfl, rfl, rfl, ?_⟩
      by_cases g : b < a
      · obtain ⟨K', w1, w2⟩ := hop g (by omega)
        rw [← w2]; exact fin K' (by omega) c
      · rw [← hL, show b = a by omega]; exact fin K (by omega) _
    · rw [ck_w (by omega)]
      have f1 : Fc x (pm P) a 1 := by
        have := (F 1 (by omega)).mpr (by omega)
        rw [show a - 1 + 1 = a by omega] at this; exact this
      refine ok_ite (fun g => ?_) (fun g => ?_)
      · have ba : b < a := by omega
        obtain ⟨K', w1, w2⟩ := hop ba (by omega)
        refine ok_so ⟨⟨by dsimp only; omega, by dsimp only; omega, sw, ?_, K', ?_, ?_⟩, by dsimp only; omega⟩
        · intro _; dsimp only; rw [show a + 1 - a = 1 by omega]; exact f1
        · dsimp only; omega
        · dsimp only; rw [show c + 1 - 1 = c by omega]; exact w2
      · refine ok_so ⟨⟨by dsimp only; omega, by dsimp only; omega, sw, ?_, K, ?_, ?_⟩, by dsimp only; omega⟩
        · intro _; dsimp only
          have := (F (a - b + 1) (by omega)).mpr (by omega)
          rw [show a - (a - b + 1) + 1 = b by omega] at this
          rw [show a + 1 - b = a - b + 1 by omega]; exact this
        · dsimp only; omega
        · dsimp only; exact hL
  · refine ok_so ⟨show -2147483648 ≤ c ∧ c < 2147483648 by omega, ?_⟩
    have e1 : b < a := by omega
    have no : ∀ l, a - b < l → ¬ Fc x (pm P) b l := by
      rintro l hl ⟨p, hp, s⟩
      have q := hy.2.1 b (by omega) (by omega)
      have := s.2.1
      omega
    have := st_part hn hm hp hP (c := c - 1) (f := b) (r := a - b) (by omega) (by omega) (fun _ => hb e1) no
    rw [if_neg (by omega), show c - 1 + 1 = c by omega, show b + (a - b) = a by omega] at this
    rw [← hL, show K = K - 2 + 1 + 1 by omega, lp_un this, lp_en (r := .inr c)]
    unfold p_X7_parts_b18
    dsimp only
    rw [hs2, ck_w (by omega), ck_w (by omega), if_neg (by omega)]
end MB
