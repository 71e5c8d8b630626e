/-! sequences in order: the next one, and its number -/
section SQ
variable {n : Nat}
def vlN (b : Int) (f : Int → Int) : Nat → Int
  | 0 => 0
  | k + 1 => vlN b f k * b + f k
theorem vl_cg {b : Int} {f g : Int → Int} : ∀ k : Nat, (∀ i, 0 ≤ i → i < (k : Int) → f i = g i) → vlN b f k = vlN b g k := by
  intro k
  induction k with
  | zero => intro _; rfl
  | succ k ih =>
    intro h
    show vlN b f k * b + f k = vlN b g k * b + g k
    rw [ih (fun i a c => h i a (by omega)), h k (by omega) (by omega)]
/-- g is the next sequence after f -/
def Nq (b L : Int) (f g : Int → Int) (j : Int) : Prop := (0 ≤ j ∧ j < L) ∧ f j + 1 < b ∧ (∀ i, j < i → i < L → f i = b - 1 ∧ g i = 0) ∧ g j = f j + 1 ∧ ∀ i, 0 ≤ i → i < j → g i = f i
theorem vl_next {b L j : Int} {f g : Int → Int} (h : Nq b L f g j) {K : Nat} (hK : (K : Int) = L) : vlN b g K = vlN b f K + 1 := by
  obtain ⟨h1, h2, h3, h4, h5⟩ := h
  obtain ⟨J, rfl⟩ := Int.eq_ofNat_of_zero_le h1.1
  have base : vlN b g (J + 1) = vlN b f (J + 1) + 1 := by
    show vlN b g J * b + g J = vlN b f J * b + f J + 1
    rw [vl_cg J (fun i a c => h5 i a c), h4]; omega
  have step : ∀ d : Nat, J + 1 + d ≤ K → vlN b g (J + 1 + d) = vlN b f (J + 1 + d) + 1 := by
    intro d
    induction d with
    | zero => intro _; exact base
    | succ d ih =>
      intro hd
      have e := h3 ((J + 1 + d : Nat) : Int) (by omega) (by omega)
      show vlN b g (J + 1 + d) * b + g ((J + 1 + d : Nat) : Int) = vlN b f (J + 1 + d) * b + f ((J + 1 + d : Nat) : Int) + 1
      rw [ih (by omega), e.1, e.2, Int.add_mul]; omega
  have := step (K - (J + 1)) (by omega)
  rw [show J + 1 + (K - (J + 1)) = K by omega] at this
  exact this
theorem Nq_un {b L j j' : Int} {f f' g g' : Int → Int} (e : ∀ i, 0 ≤ i → i < L → f i = f' i) (h : Nq b L f g j) (k : Nq b L f' g' j') : ∀ i, 0 ≤ i → i < L → g i = g' i := by
  obtain ⟨h1, h2, h3, h4, h5⟩ := h
  obtain ⟨k1, k2, k3, k4, k5⟩ := k
  have a1 := e j h1.1 h1.2
  have a2 := e j' k1.1 k1.2
  have jj : j = j' := by
    by_cases q : j < j'
    · have := (h3 j' q k1.2).1; omega
    · by_cases q2 : j' < j
      · have := (k3 j q2 h1.2).1; omega
      · omega
  subst jj
  intro i i0 i1
  by_cases q : i < j
  · rw [h5 i i0 q, k5 i i0 q]; exact e i i0 i1
  · by_cases q2 : i = j
    · rw [q2, h4, k4, a1]
    · rw [(h3 i (by omega) i1).2, (k3 i (by omega) i1).2]
theorem e_turn (hn : 1000 ≤ n) {T : TxtS} {b : Int} (hb : 1 ≤ b ∧ b ≤ 8) (hL : 1 ≤ T.length ∧ T.length ≤ 60) (hf : ∀ i, 0 ≤ i → i < T.length → 0 ≤ T.letters i ∧ T.letters i < b) : Ok (p_X5_turnToNext n T b) (fun r => (r.2.length = T.length ∧ r.2.version = T.version ∧ r.2.words = T.words ∧ r.2.places = T.places ∧ r.2.rests = T.rests) ∧ ((r.1 = 1 ∧ ∃ j, Nq b T.length T.letters r.2.letters j) ∨ (r.1 = 0 ∧ ∀ i, 0 ≤ i → i < T.length → T.letters i = b - 1))) := by
  unfold p_X5_turnToNext
  refine ok_bd (P := fun q => (∃ j g, q = .inl (1, (g, T.words, T.places, T.rests, T.starts, T.wordCount, T.length, T.version)) ∧ Nq b T.length T.letters g j) ∨ (∃ g, q = .inr g ∧ ∀ i, 0 ≤ i → i < T.length → T.letters i = b - 1)) ?_ ?_
  · refine ok_lpJ (fun z => (-1 ≤ z.1 ∧ z.1 < T.length) ∧ (∀ i, z.1 < i → i < T.length → T.letters i = b - 1 ∧ z.2 i = 0) ∧ ∀ i, i ≤ z.1 → z.2 i = T.letters i) (fun z => z.1 + 1) ?_ n _ ⟨by dsimp only; omega, fun i a c => by dsimp only at a; omega, fun i a => rfl⟩ (by dsimp only; omega)
    rintro ⟨z, g⟩ ⟨hz, h1, h2⟩
    dsimp only at hz h1 h2 ⊢
    refine ⟨by omega, ?_⟩
    unfold p_X5_turnToNext_b7
    dsimp only
    rw [ck_w (by omega)]
    refine ok_ite (fun d => ok_so (Or.inr ⟨g, rfl, fun i a c => (h1 i (by omega) c).1⟩)) (fun d => ?_)
    have e := h2 z (Int.le_refl _)
    have f := hf z (by omega) (by omega)
    rw [ix_of (by omega), ck_w (by omega), ck_w (by omega)]
    refine ok_ite (fun w => ?_) (fun w => ?_)
    · refine ok_so (Or.inl ⟨z, _, rfl, by omega, by omega, fun i a c => ⟨(h1 i a c).1, ?_⟩, by rw [up_s, e], fun i a c => ?_⟩)
      · rw [up_n _ _ (by omega)]; exact (h1 i a c).2
      · rw [up_n _ _ (by omega)]; exact h2 i (by omega)
    · refine ok_so ⟨⟨by dsimp only; omega, fun i a c => ?_, fun i a => ?_⟩, by dsimp only; omega⟩
      · dsimp only at a ⊢
        by_cases q : i = z
        · rw [q, up_s]; omega
        · rw [up_n _ _ q]; exact h1 i (by omega) c
      · dsimp only at a ⊢
        rw [up_n _ _ (by omega)]; exact h2 i (by omega)
  · rintro q (⟨j, g, rfl, hj⟩ | ⟨g, rfl, hg⟩)
    · exact ok_so ⟨⟨rfl, rfl, rfl, rfl, rfl⟩, Or.inl ⟨rfl, j, hj⟩⟩
    · exact ok_so ⟨⟨rfl, rfl, rfl, rfl, rfl⟩, Or.inr ⟨rfl, hg⟩⟩
theorem e_nextTried (hn : 1000 ≤ n) {r : MrS} {b L : Int} (hb : 1 ≤ b ∧ b ≤ 8) (hL : 1 ≤ L ∧ L ≤ 60) (hf : ∀ i, 0 ≤ i → i < L → 0 ≤ r i ∧ r i < b) : Ok (p_X7_nextTried n r L b) (fun q => (q.1 = 1 ∧ ∃ j, Nq b L r q.2 j) ∨ (q.1 = 0 ∧ ∀ i, 0 ≤ i → i < L → r i = b - 1)) := by
  unfold p_X7_nextTried
  refine ok_bd (P := fun q => (-1 ≤ q.1 ∧ q.1 < L) ∧ (∀ i, q.1 < i → i < L → r i = b - 1 ∧ q.2 i = 0) ∧ (∀ i, i ≤ q.1 → q.2 i = r i) ∧ (0 ≤ q.1 → r q.1 ≠ b - 1)) ?_ ?_
  · refine ok_lpJ (fun z => (-1 ≤ z.1 ∧ z.1 < L) ∧ (∀ i, z.1 < i → i < L → r i = b - 1 ∧ z.2 i = 0) ∧ ∀ i, i ≤ z.1 → z.2 i = r i) (fun z => z.1 + 1) ?_ n _ ⟨by dsimp only; omega, fun i a c => by dsimp only at a; omega, fun i a => rfl⟩ (by dsimp only; omega)
    rintro ⟨z, g⟩ ⟨hz, h1, h2⟩
    dsimp only at hz h1 h2 ⊢
    refine ⟨by omega, ?_⟩
    unfold p_X7_nextTried_b4
    dsimp only
    rw [ck_w (by omega)]
    refine ok_ite (fun d => ok_so ⟨hz, h1, h2, fun q => by dsimp only at q; omega⟩) (fun d => ?_)
    have e := h2 z (Int.le_refl _)
    have f := hf z (by omega) (by omega)
    rw [ix_of (by omega), ck_w (by omega), ck_w (by omega)]
    refine ok_ite (fun w => ?_) (fun w => ok_so ⟨hz, h1, h2, fun _ q => w (by dsimp only at q; omega)⟩)
    refine ok_so ⟨⟨by dsimp only; omega, fun i a c => ?_, fun i a => ?_⟩, by dsimp only; omega⟩
    · dsimp only at a ⊢
      by_cases q : i = z
      · rw [q, up_s]; omega
      · rw [up_n _ _ q]; exact h1 i (by omega) c
    · dsimp only at a ⊢
      rw [up_n _ _ (by omega)]; exact h2 i (by omega)
  · rintro ⟨z, g⟩ ⟨hz, h1, h2, h3⟩
    dsimp only at hz h1 h2 h3 ⊢
    rw [ck_w (by omega)]
    refine ok_ite (fun d => ok_so (Or.inr ⟨rfl, fun i a c => (h1 i (by omega) c).1⟩)) (fun d => ?_)
    have f := hf z (by omega) (by omega)
    have e := h2 z (Int.le_refl _)
    have ne := h3 (by omega)
    rw [ix_of (by omega)]
    refine ok_so (Or.inl ⟨rfl, z, by omega, by omega, fun i a c => ⟨(h1 i a c).1, ?_⟩, by dsimp only; rw [up_s, e], fun i a c => ?_⟩)
    · dsimp only
      rw [up_n _ _ (by omega)]; exact (h1 i a c).2
    · dsimp only
      rw [up_n _ _ (by omega)]; exact h2 i (by omega)
end SQ
