/-! for common and unique: ranks of one stretch, its words -/
section WO
variable {n : Nat} {x : MT} {m : MtS} {s : MsS}
/-- the ranks of the places where the stretch stands -/
theorem run_iff (hx : MOk x) {A N : Row} (h : SrtOk x A N) {k l : Int} (hk : 0 ≤ k ∧ k < x.n) (hl : 1 ≤ l) (hN : N k < l) (hR : l ≤ x.R (A k)) {j : Int} (hj : 0 ≤ j ∧ j < x.n) : Sm x (A j) x (A k) l ↔ (k ≤ j ∧ j < k + cnt x (A k) l) := by
  have e1 := h.2.1 (fun q => ind (Sm x q x (A k) l))
  have e2 : cnt x (A k) l = sm (fun i => ind (Sm x (A i) x (A k) l)) x.n := e1.symm
  have low : ∀ i, 0 ≤ i → i < k → ¬ Sm x (A i) x (A k) l := (near_iff hx h hk hl).mpr hN
  have cv : ∀ i j, k ≤ i → i ≤ j → j < x.n → Sm x (A j) x (A k) l → Sm x (A i) x (A k) l := by
    intro i j a b c s
    by_cases q : i = k
    · rw [q]; exact Sm_rf hR
    · by_cases q2 : i = j
      · rw [q2]; exact s
      · exact Sm_sy (between hx (h.1.1 k i hk.1 (by omega) (by omega)) (h.1.1 i j (by omega) (by omega) c) (Sm_sy s))
  constructor
  · intro s
    have kj : k ≤ j := by
      by_cases q : k ≤ j
      · exact q
      · exact absurd s (low j hj.1 (by omega))
    refine ⟨kj, ?_⟩
    have a : sm (fun i => ind (k ≤ i ∧ i ≤ j)) x.n ≤ cnt x (A k) l := by
      rw [e2]
      refine sm_le (fun i i0 i1 => ?_)
      by_cases w : k ≤ i ∧ i ≤ j
      · rw [ind_t w, ind_t (cv i j w.1 w.2 hj.2 s)]; omega
      · rw [ind_f w]; exact ind_nn _
    have b : sm (fun i => ind (k ≤ i ∧ i ≤ j)) x.n = j - k + 1 := by
      by_cases w : k = 0
      · rw [sm_tail (a := j + 1) (by omega) (fun p u v _ => ind_f (by omega)), sm_cg (g := fun _ => 1) (fun i u v => ind_t (by omega)), sm_c 1 (by omega)]; omega
      · rw [sm_cg (g := fun i => ind (k - 1 < i ∧ i ≤ j)) (fun i _ _ => ind_i (by omega)), sm_between (by omega) (by omega) hj.2]; omega
    omega
  · rintro ⟨kj, jc⟩
    refine Classical.byContradiction (fun no => ?_)
    have z : ∀ i, j ≤ i → i < x.n → 0 ≤ i → ind (Sm x (A i) x (A k) l) = 0 := fun i a b _ => ind_f (fun w => no (cv j i kj a b w))
    rw [e2, sm_tail (a := j) (by omega) z] at jc
    have a : sm (fun i => ind (Sm x (A i) x (A k) l)) j ≤ sm (fun i => ind (k ≤ i)) j := by
      refine sm_le (fun i i0 i1 => ?_)
      by_cases w : k ≤ i
      · rw [ind_t w]; exact ind_le _
      · rw [ind_f w, ind_f (low i i0 (by omega))]; omega
    have b : sm (fun i => ind (k ≤ i)) j + k = j := by
      have c := sm_add (fun i => ind (k ≤ i)) (fun i => ind (i < k)) j
      rw [sm_cg (g := fun _ => 1) (fun i _ _ => by
        by_cases w : k ≤ i
        · rw [ind_t w, ind_f (by omega)]; rfl
        · rw [ind_f w, ind_t (by omega)]; rfl), sm_c 1 (by omega), sm_tail (g := fun i => ind (i < k)) (a := k) kj (fun p u v _ => ind_f (by omega)), sm_cg (f := fun i => ind (i < k)) (g := fun _ => 1) (fun i u v => ind_t v), sm_c 1 hk.1] at c
      omega
    omega
theorem rank_rep (hx : MOk x) {A N : Row} (h : SrtOk x A N) {p l : Int} (hl : 1 ≤ l ∧ l ≤ x.R p) : ∃ j, (0 ≤ j ∧ j < x.n) ∧ (N j < l ∧ l ≤ x.R (A j)) ∧ Sm x (A j) x p l := by
  have hp := R_in hx (p := p) (by omega)
  obtain ⟨k, k1, k2⟩ := rank_ex h hp
  obtain ⟨j, j1, j2, j3⟩ := least (P := fun j => Sm x (A j) x p l) k k1.1 (by rw [k2]; exact Sm_rf hl.2)
  refine ⟨j, by omega, ⟨(near_iff hx h (by omega) hl.1).mp (fun i a b s => j3 i a b (Sm_tr s j2)), j2.1⟩, j2⟩
theorem e_wordsOf (hn : 1000 ≤ n) (h : MX 0 x m) (hs : SrtOk x s.sorted s.near) {k l : Int} (hk : 0 ≤ k ∧ k < x.n) (hl : 1 ≤ l ∧ l ≤ 60) (hN : s.near k < l) (hR : l ≤ x.R (s.sorted k)) : Ok (p_X7_wordsOf n m s k l) (WX x (s.sorted k) l) := by
  have hx := h.1
  have nn := hx.1
  have cn := cnt_le hx (s.sorted k) l
  have top : k + cnt x (s.sorted k) l ≤ x.n := by
    have c1 := cnt_pos hx (p := s.sorted k) (l := l) ⟨hl.1, hR⟩
    by_cases q : k + cnt x (s.sorted k) l ≤ x.n
    · exact q
    · have e1 := hs.2.1 (fun q => ind (Sm x q x (s.sorted k) l))
      have e2 : cnt x (s.sorted k) l = sm (fun i => ind (Sm x (s.sorted i) x (s.sorted k) l)) x.n := e1.symm
      have a : sm (fun i => ind (Sm x (s.sorted i) x (s.sorted k) l)) x.n + k ≤ x.n := by
        have c := sm_add (fun i => ind (Sm x (s.sorted i) x (s.sorted k) l)) (fun i => ind (i < k)) x.n
        have c2 : sm (fun i => ind (Sm x (s.sorted i) x (s.sorted k) l) + ind (i < k)) x.n ≤ sm (fun _ => 1) x.n := by
          refine sm_le (fun i i0 i1 => ?_)
          by_cases w : i < k
          · rw [ind_t w, ind_f ((near_iff hx hs hk hl.1).mpr hN i i0 w)]; omega
          · rw [ind_f w]; have := ind_le (Sm x (s.sorted i) x (s.sorted k) l); omega
        rw [sm_c 1 nn.1, c, sm_tail (g := fun i => ind (i < k)) (a := k) (by omega) (fun p u v _ => ind_f (by omega)), sm_cg (f := fun i => ind (i < k)) (g := fun _ => 1) (fun i u v => ind_t v), sm_c 1 hk.1] at c2
        omega
      omega
  unfold p_X7_wordsOf
  refine ok_bd (P := WX x (s.sorted k) l) ?_ (fun r hr => ok_so hr)
  refine ok_lpJ (fun z => (k ≤ z.2 ∧ z.2 ≤ k + cnt x (s.sorted k) l) ∧ BS x.W (fun q => ∃ j, (k ≤ j ∧ j < z.2) ∧ s.sorted j = q) z.1) (fun z => k + cnt x (s.sorted k) l - z.2) ?_ n _ ⟨by dsimp only; omega, BS_0 (fun q ⟨j, w, _⟩ => by dsimp only at w; omega)⟩ (by dsimp only; omega)
  rintro ⟨r, z⟩ ⟨hz, hr⟩
  dsimp only at hz hr ⊢
  refine ⟨by omega, ?_⟩
  unfold p_X7_wordsOf_b5
  dsimp only
  rw [e_mendsOf hn h hs hk hl hN hR, so_bd, ck_w (by omega), ck_w (by omega)]
  refine ok_ite (fun d => ?_) (fun d => ok_so ?_)
  · have sz' := hs.1.2 z (by omega) (by omega)
    have ww := W_in hx (s.sorted z)
    rw [ix_of (by omega), ix_of (by omega), e_mwordOf h sz']
    refine ok_so ⟨⟨by dsimp only; omega, BS_add (e := s.sorted z) (by omega) hr (fun q => ?_)⟩, by dsimp only; omega⟩
    dsimp only
    constructor
    · rintro ⟨j, j1, j2⟩
      by_cases w : j = z
      · exact Or.inr (by rw [← j2, w])
      · exact Or.inl ⟨j, by omega, j2⟩
    · rintro (⟨j, j1, j2⟩ | w)
      · exact ⟨j, by omega, j2⟩
      · exact ⟨z, by omega, w.symm⟩
  · rw [show z = k + cnt x (s.sorted k) l by omega] at hr
    refine BS_cg hr (fun q => ?_)
    constructor
    · rintro ⟨q1, q2⟩
      obtain ⟨j, j1, j2⟩ := rank_ex hs q1
      exact ⟨j, (run_iff hx hs hk hl.1 hN hR j1).mp (by rw [j2]; exact q2), j2⟩
    · rintro ⟨j, j1, j2⟩
      have jn : 0 ≤ j ∧ j < x.n := by omega
      have := (run_iff hx hs hk hl.1 hN hR jn).mpr j1
      rw [← j2]
      exact ⟨hs.1.2 j jn.1 jn.2, this⟩
/-- a beginning that differs settles the order -/
theorem Bf_pre (hx : MOk x) {p q r l : Int} (hl : l ≤ x.R p) (h : Bf x p q) (no : ¬ Sm x p x q l) (s : Sm x p x r l) : Bf x r q := by
  obtain ⟨k, k0, k1, k2⟩ := (Bf_iff hx).mp h
  have kl : k < l := by
    refine Classical.byContradiction (fun w => no ⟨hl, ?_, fun i a b => ?_⟩)
    · refine Classical.byContradiction (fun w2 => ?_)
      have rq := R_nn hx q
      have e := k1 (x.R q) rq (by omega)
      rw [Kx_out (p := q) (by omega), Kx_in (p := p) (by omega)] at e
      have := L_in hx (p + x.R q)
      omega
    · have e := k1 i a (by omega)
      have a1 := (Kx_ge hx p i).2
      have a2 := (Kx_ge hx q i).2
      have ip : i < x.R p := by omega
      have iq : i < x.R q := a2.mp (by rw [← e]; exact a1.mpr ip)
      rw [Kx_in ip, Kx_in iq] at e; exact e
  have same : ∀ i, 0 ≤ i → i < l → Kx x r i = Kx x p i := by
    intro i a b
    have := s.2.1
    rw [Kx_in (p := r) (by omega), Kx_in (p := p) (by omega), s.2.2 i a b]
  exact (Bf_iff hx).mpr ⟨k, k0, fun i a b => by rw [same i a (by omega)]; exact k1 i a b, by rw [same k k0 kl]; exact k2⟩
end WO
