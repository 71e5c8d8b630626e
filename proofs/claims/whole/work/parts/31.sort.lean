/-! sorting by insertion -/
/-- a row with one more put in at k -/
theorem sm_ins {A B : Row} {p k v : Int} (f : Int → Int) (hk : 0 ≤ k ∧ k ≤ p) (h1 : ∀ i, 0 ≤ i → i < k → B i = A i) (h2 : B k = v) (h3 : ∀ i, k < i → i ≤ p → B i = A (i - 1)) : sm (fun i => f (B i)) (p + 1) = sm (fun i => f (A i)) p + f v := by
  obtain ⟨d, rfl⟩ : ∃ d, p = k + d := ⟨p - k, by omega⟩
  have hd : 0 ≤ d := by omega
  have : ∀ j, 0 ≤ j → j ≤ d → sm (fun i => f (B i)) (k + j + 1) = sm (fun i => f (A i)) (k + j) + f v := by
    intro j hj
    refine int_ind (P := fun j => j ≤ d → sm (fun i => f (B i)) (k + j + 1) = sm (fun i => f (A i)) (k + j) + f v) ?_ ?_ j hj
    · intro _
      rw [Int.add_zero, sm_s hk.1, h2, sm_cg (f := fun i => f (B i)) (g := fun i => f (A i)) (fun i a b => by rw [h1 i a b])]
    · intro i hi ih hl
      rw [show k + (i + 1) + 1 = (k + i + 1) + 1 by omega, sm_s (by omega), ih (by omega), show k + (i + 1) = (k + i) + 1 by omega, sm_s (by omega), h3 (k + i + 1) (by omega) (by omega), show k + i + 1 - 1 = k + i by omega]
      omega
  exact this d hd (Int.le_refl _)
/-- places in order, all of a stretch of the text from a on -/
def Srt (x : MT) (A : Row) (k : Int) : Prop := (∀ i j, 0 ≤ i → i < j → j < k → ¬ Bf x (A j) (A i)) ∧ ∀ i, 0 ≤ i → i < k → 0 ≤ A i ∧ A i < x.n
theorem Srt_ins {x : MT} (hx : MOk x) {A B : Row} {p k v : Int} (hk : 0 ≤ k ∧ k ≤ p) (h1 : ∀ i, 0 ≤ i → i < k → B i = A i) (h2 : B k = v) (h3 : ∀ i, k < i → i ≤ p → B i = A (i - 1)) (hA : Srt x A p) (hv : 0 ≤ v ∧ v < x.n) (h4 : ∀ i, k ≤ i → i < p → ¬ Bf x (A i) v) (h5 : 0 < k → ¬ Bf x v (A (k - 1))) : Srt x B (p + 1) := by
  have cA : ∀ i, 0 ≤ i → i < k → ¬ Bf x v (A i) := by
    intro i a b
    by_cases e : i = k - 1
    · rw [e]; exact h5 (by omega)
    · exact Le_tr hx (hA.1 i (k - 1) a (by omega) (by omega)) (h5 (by omega))
  refine ⟨fun i j a b c => ?_, fun i a b => ?_⟩
  · by_cases i1 : i < k
    · rw [h1 i a i1]
      by_cases j1 : j < k
      · rw [h1 j (by omega) j1]; exact hA.1 i j a b (by omega)
      · by_cases j2 : j = k
        · rw [j2, h2]; exact cA i a i1
        · rw [h3 j (by omega) (by omega)]; exact hA.1 i (j - 1) a (by omega) (by omega)
    · by_cases i2 : i = k
      · rw [i2, h2, h3 j (by omega) (by omega)]; exact h4 (j - 1) (by omega) (by omega)
      · rw [h3 i (by omega) (by omega), h3 j (by omega) (by omega)]; exact hA.1 (i - 1) (j - 1) (by omega) (by omega) (by omega)
  · by_cases i1 : i < k
    · rw [h1 i a i1]; exact hA.2 i a (by omega)
    · by_cases i2 : i = k
      · rw [i2, h2]; exact hv
      · rw [h3 i (by omega) (by omega)]; exact hA.2 (i - 1) (by omega) (by omega)
/-- a full order of the places, and the common beginnings of neighbours -/
def SrtOk (x : MT) (A N : Row) : Prop := Srt x A x.n ∧ (∀ f : Int → Int, sm (fun i => f (A i)) x.n = sm f x.n) ∧ ∀ k, 0 ≤ k → k < x.n → N k = if k = 0 then 0 else lc x (A (k - 1)) x (A k)
theorem e_isBefore {n : Nat} (hn : 1000 ≤ n) {x : MT} {m : MtS} (h : MX 0 x m) {p q : Int} (hp : 0 ≤ p ∧ p < x.n) (hq : 0 ≤ q ∧ q < x.n) : ∃ r, p_X7_isBefore n m p q = some r ∧ (r = 0 ∨ r = 1) ∧ (r = 1 → ¬ Bf x q p) ∧ (r = 0 → ¬ Bf x p q) := by
  have hx := h.1
  have a := hx.2.1 p hp.1 hp.2
  have b := hx.2.1 q hq.1 hq.2
  have nn := hx.1
  have l0 := lc_nn hx hx p q
  have l1 := lc_le hx hx p q
  have sy := lc_sy hx hx p q
  have e1 := e_alike hn (Or.inl rfl) (Or.inl rfl) h h hp hq
  have e2 := e_rest (Or.inl rfl) h hp
  have e3 := e_rest (Or.inl rfl) h hq
  unfold p_X7_isBefore
  by_cases c : lc x p x q = x.R p
  · by_cases d : x.R p < x.R q
    · refine ⟨1, by simp (disch := omega) only [e1, e2, e3, so_bd, ck_w, bk_of, ite_true, ite_false, if_pos, if_neg], Or.inr rfl, fun _ => Bf_as hx (Or.inl ⟨c, d⟩), fun q => by omega⟩
    · have eq : Eqs x p q := ⟨by omega, c⟩
      have n1 : ¬ Bf x p q := fun g => by
        obtain ⟨k, k1, k2, k3⟩ := (Bf_iff hx).mp g
        have := Eqs_K hx eq k k1; omega
      have n2 : ¬ Bf x q p := fun g => by
        obtain ⟨k, k1, k2, k3⟩ := (Bf_iff hx).mp g
        have := Eqs_K hx eq k k1; omega
      by_cases g : p < q
      · exact ⟨1, by simp (disch := omega) only [e1, e2, e3, so_bd, ck_w, bk_of, ite_true, ite_false, if_pos, if_neg], Or.inr rfl, fun _ => n2, fun q => by omega⟩
      · exact ⟨0, by simp (disch := omega) only [e1, e2, e3, so_bd, ck_w, bk_of, ite_true, ite_false, if_pos, if_neg], Or.inl rfl, fun _ => n2, fun _ => n1⟩
  · by_cases d : lc x p x q < x.R q
    · have f1 := (h.2.2 (p + lc x p x q) (by omega) (by omega)).1
      have f2 := (h.2.2 (q + lc x p x q) (by omega) (by omega)).1
      rw [show 60 * (0 : Int) + (p + lc x p x q) = p + lc x p x q by omega] at f1
      rw [show 60 * (0 : Int) + (q + lc x p x q) = q + lc x p x q by omega] at f2
      have g1 := L_in hx (p + lc x p x q)
      have g2 := L_in hx (q + lc x p x q)
      have ne := lc_ne hx hx (p := p) (q := q) (by omega) (by omega)
      by_cases g : x.L (p + lc x p x q) < x.L (q + lc x p x q)
      · exact ⟨1, by simp (disch := omega) only [e1, e2, e3, f1, f2, so_bd, ck_w, ix_of, bk_of, ite_true, ite_false, if_pos, if_neg], Or.inr rfl, fun _ => Bf_as hx (Or.inr ⟨by omega, d, g⟩), fun q => by omega⟩
      · exact ⟨0, by simp (disch := omega) only [e1, e2, e3, f1, f2, so_bd, ck_w, ix_of, bk_of, ite_true, ite_false, if_pos, if_neg], Or.inl rfl, fun q => by omega, fun _ => Bf_as hx (Or.inr ⟨by omega, by omega, by rw [← sy]; omega⟩)⟩
    · exact ⟨0, by simp (disch := omega) only [e1, e2, e3, so_bd, ck_w, bk_of, ite_true, ite_false, if_pos, if_neg], Or.inl rfl, fun q => by omega, fun _ => Bf_as hx (Or.inl ⟨by omega, by omega⟩)⟩
/-- the state of an insertion: the hole is at k -/
def InsI (A : Row) (p : Int) (C : Int → Prop) (z : Int × Row) : Prop := (0 ≤ z.1 ∧ z.1 ≤ p) ∧ (∀ i, 0 ≤ i → i < z.1 → z.2 i = A i) ∧ (∀ i, z.1 < i → i ≤ p → z.2 i = A (i - 1)) ∧ ∀ i, z.1 ≤ i → i < p → C i
def InsQ (A : Row) (p : Int) (C D : Int → Prop) (z : Int × Row) : Prop := InsI A p C z ∧ (0 < z.1 → D (z.1 - 1))
theorem e_sort {n : Nat} (hn : 1000 ≤ n) {x : MT} {m : MtS} (h : MX 0 x m) (s : MsS) : Ok (p_X7_sort n m s) (fun r => SrtOk x r.sorted r.near) := by
  have hx := h.1
  have nn := hx.1
  have hm : m.many 0 = x.n := h.2.1
  unfold p_X7_sort
  refine ok_bd (P := fun A => Srt x A x.n ∧ (∀ f : Int → Int, sm (fun i => f (A i)) x.n = sm f x.n)) ?_ ?_
  · refine ok_lpJ (fun z => (0 ≤ z.1 ∧ z.1 ≤ x.n) ∧ Srt x z.2 z.1 ∧ ∀ f : Int → Int, sm (fun i => f (z.2 i)) z.1 = sm f z.1) (fun z => x.n - z.1) ?_ n _ ?_ ?_
    · rintro ⟨p, A⟩ ⟨hp, hA, hf⟩
      dsimp only at hp hA hf ⊢
      refine ⟨by omega, ?_⟩
      unfold p_X7_sort_b2
      dsimp only
      rw [hm, ck_w (by omega), ck_w (by omega)]
      refine ok_ite (fun c => ?_) (fun c => ?_)
      · refine ok_bd (P := InsQ A p (fun i => ¬ Bf x (A i) p) (fun i => ¬ Bf x p (A i))) ?_ ?_
        · refine ok_lpJ (InsI A p (fun i => ¬ Bf x (A i) p)) (fun z => z.1) ?_ n _ ?_ ?_
          · rintro ⟨k, B⟩ ⟨h1, h2, h3, h4⟩
            dsimp only at h1 h2 h3 h4 ⊢
            refine ⟨h1.1, ?_⟩
            unfold p_X7_sort_b14
            dsimp only
            rw [ck_w (by omega)]
            refine ok_ite (fun d => ?_) (fun d => ?_)
            · have eB := h2 (k - 1) (by omega) (by omega)
              obtain ⟨r, e1, e2, e3, e4⟩ := e_isBefore hn h (p := p) (q := A (k - 1)) ⟨by omega, c⟩ (hA.2 (k - 1) (by omega) (by omega))
              rw [ix_of (by omega), eB, e1, so_bd, ck_w (by omega)]
              refine ok_ite (fun g => ?_) (fun g => ?_)
              · exact ok_so ⟨⟨h1, h2, h3, h4⟩, fun _ => e4 g⟩
              · rw [ix_of (by omega)]
                refine ok_so ⟨⟨by dsimp only; omega, fun i a b => ?_, fun i a b => ?_, fun i a b => ?_⟩, by dsimp only; omega⟩
                · dsimp only at b ⊢
                  rw [up_n _ _ (by omega)]; exact h2 i a (by omega)
                · dsimp only at a ⊢
                  by_cases q : i = k
                  · rw [q, up_s]
                  · rw [up_n _ _ q]; exact h3 i (by omega) b
                · dsimp only at a
                  by_cases q : i = k - 1
                  · rw [q]; exact e3 (by omega)
                  · exact h4 i (by omega) b
            · exact ok_so ⟨⟨h1, h2, h3, h4⟩, fun q => absurd q (by dsimp only; omega)⟩
          · exact ⟨by dsimp only; omega, fun i a b => rfl, fun i a b => absurd a (by dsimp only; omega), fun i a b => absurd a (by dsimp only; omega)⟩
          · dsimp only; omega
        · rintro ⟨k, B⟩ ⟨⟨h1, h2, h3, h4⟩, h5⟩
          dsimp only at h1 h2 h3 h4 h5 ⊢
          rw [ix_of (by omega)]
          have q1 : ∀ i, 0 ≤ i → i < k → up B k p i = A i := fun i a b => by rw [up_n _ _ (by omega)]; exact h2 i a b
          have q2 : up B k p k = p := up_s _ _ _
          have q3 : ∀ i, k < i → i ≤ p → up B k p i = A (i - 1) := fun i a b => by rw [up_n _ _ (by omega)]; exact h3 i a b
          refine ok_so ⟨⟨by dsimp only; omega, Srt_ins hx h1 q1 q2 q3 hA ⟨by omega, c⟩ h4 h5, fun f => ?_⟩, by dsimp only; omega⟩
          dsimp only
          rw [sm_ins f h1 q1 q2 q3, hf, sm_s (by omega)]
      · have e : p = x.n := by omega
        subst e
        exact ok_so ⟨hA, hf⟩
    · exact ⟨by dsimp only; omega, ⟨fun i j a b c => absurd c (by dsimp only; omega), fun i a b => absurd b (by dsimp only; omega)⟩, fun f => by dsimp only; rw [sm_0 (Int.le_refl 0), sm_0 (Int.le_refl 0)]⟩
    · dsimp only; omega
  · rintro A ⟨hA, hf⟩
    refine ok_bd (P := fun N => ∀ k, 0 ≤ k → k < x.n → N k = if k = 0 then 0 else lc x (A (k - 1)) x (A k)) ?_ (fun N hN => ok_so ⟨hA, hf, hN⟩)
    refine ok_lpJ (fun z => (0 ≤ z.1 ∧ z.1 ≤ x.n) ∧ ∀ k, 0 ≤ k → k < z.1 → z.2 k = if k = 0 then 0 else lc x (A (k - 1)) x (A k)) (fun z => x.n - z.1) ?_ n _ ?_ ?_
    · rintro ⟨k, N⟩ ⟨hk, hN⟩
      dsimp only at hk hN ⊢
      refine ⟨by omega, ?_⟩
      unfold p_X7_sort_b69
      dsimp only
      rw [hm, ck_w (by omega), ck_w (by omega)]
      refine ok_ite (fun c => ?_) (fun c => ?_)
      · refine ok_ite (fun d => ?_) (fun d => ?_)
        · rw [ix_of (by omega)]
          refine ok_so ⟨⟨by dsimp only; omega, fun i a b => ?_⟩, by dsimp only; omega⟩
          dsimp only at b ⊢
          by_cases q : i = k
          · rw [q, up_s, if_pos d]
          · rw [up_n _ _ q]; exact hN i a (by omega)
        · rw [ix_of (by omega), ix_of (by omega), e_alike hn (Or.inl rfl) (Or.inl rfl) h h (hA.2 (k - 1) (by omega) (by omega)) (hA.2 k hk.1 c), so_bd]
          refine ok_so ⟨⟨by dsimp only; omega, fun i a b => ?_⟩, by dsimp only; omega⟩
          dsimp only at b ⊢
          by_cases q : i = k
          · rw [q, up_s, if_neg d]
          · rw [up_n _ _ q]; exact hN i a (by omega)
      · exact ok_so (fun i a b => hN i a (by omega))
    · exact ⟨by dsimp only; omega, fun i a b => absurd b (by dsimp only; omega)⟩
    · dsimp only; omega
