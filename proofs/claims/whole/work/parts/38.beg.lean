/-! the component's order of the places; two orders are one up to equal rests; how often a stretch stands -/
theorem e_insert {n : Nat} (hn : 1000 ≤ n) {x : MT} {t : TxtS} (h : TX x t) {B : BegS} {v : Int} (hv : 0 ≤ v ∧ v < x.n) (hs : 0 ≤ B.size ∧ B.size < x.n) (hA : Srt x B.starts B.size) : Ok (p_X0_insert n B t v) (fun C => C.size = B.size + 1 ∧ C.version = B.version ∧ C.shared = B.shared ∧ Srt x C.starts C.size ∧ ∀ f : Int → Int, sm (fun i => f (C.starts i)) C.size = sm (fun i => f (B.starts i)) B.size + f v) := by
  have hx := h.2
  have nn := hx.1
  unfold p_X0_insert
  rw [ck_w (by omega), if_pos (by omega)]
  refine ok_bd (P := InsQ B.starts B.size (fun i => ¬ Bf x (B.starts i) v) (fun i => ¬ Bf x v (B.starts i))) ?_ ?_
  · refine ok_lpJ (InsI B.starts B.size (fun i => ¬ Bf x (B.starts i) v)) (fun z => z.1) ?_ n _ ?_ ?_
    · rintro ⟨k, A⟩ ⟨h1, h2, h3, h4⟩
      dsimp only at h1 h2 h3 h4 ⊢
      refine ⟨h1.1, ?_⟩
      unfold p_X0_insert_b15
      dsimp only
      rw [ck_w (by omega)]
      refine ok_ite (fun d => ?_) (fun d => ?_)
      · have eB := h2 (k - 1) (by omega) (by omega)
        have ib := hA.2 (k - 1) (by omega) (by omega)
        obtain ⟨q1, q2⟩ := e_comesBefore hn h (p := v) (q := B.starts (k - 1)) (by omega) (by omega)
        rw [ix_of (by omega), eB]
        by_cases w : Bf x v (B.starts (k - 1))
        · rw [q1 w, so_bd, ck_w (by omega), if_neg (by omega), ix_of (by omega)]
          refine ok_so ⟨⟨by dsimp only; omega, fun i a b => ?_, fun i a b => ?_, fun i a b => ?_⟩, by dsimp only; omega⟩
          · dsimp only at b ⊢
            rw [up_n _ _ (by omega)]; exact h2 i a (by omega)
          · dsimp only at a ⊢
            by_cases q : i = k
            · rw [q, up_s]
            · rw [up_n _ _ q]; exact h3 i (by omega) b
          · dsimp only at a
            by_cases q : i = k - 1
            · rw [q]; exact Bf_as hx w
            · exact h4 i (by omega) b
        · rw [q2 w, so_bd, ck_w (by omega), if_pos rfl]
          exact ok_so ⟨⟨h1, h2, h3, h4⟩, fun _ => w⟩
      · exact ok_so ⟨⟨h1, h2, h3, h4⟩, fun q => absurd q (by dsimp only; omega)⟩
    · exact ⟨by dsimp only; omega, fun i a b => rfl, fun i a b => absurd a (by dsimp only; omega), fun i a b => absurd a (by dsimp only; omega)⟩
    · dsimp only; omega
  · rintro ⟨k, A⟩ ⟨⟨h1, h2, h3, h4⟩, h5⟩
    dsimp only at h1 h2 h3 h4 h5 ⊢
    rw [ix_of (by omega)]
    have q1 : ∀ i, 0 ≤ i → i < k → up A k v i = B.starts i := fun i a b => by rw [up_n _ _ (by omega)]; exact h2 i a b
    have q2 : up A k v k = v := up_s _ _ _
    have q3 : ∀ i, k < i → i ≤ B.size → up A k v i = B.starts (i - 1) := fun i a b => by rw [up_n _ _ (by omega)]; exact h3 i a b
    exact ok_so ⟨rfl, rfl, rfl, Srt_ins hx h1 q1 q2 q3 hA hv h4 h5, fun f => sm_ins f h1 q1 q2 q3⟩
def BegOk (x : MT) (B : BegS) : Prop := B.size = x.n ∧ SrtOk x B.starts B.shared
theorem e_begR {n : Nat} (hn : 1000 ≤ n) {x : MT} {t : TxtS} (h : TX x t) {B : BegS} (h1 : InR B.version) (h2 : InR t.version) (hB : B.version = t.version → BegOk x B) : Ok (p_X0_refresh n B t) (fun C => BegOk x C ∧ C.version = t.version) := by
  have hx := h.2
  have nn := hx.1
  unfold p_X0_refresh p_X5_versionTaken
  rw [so_bd, ck_of h1, ck_of h2]
  refine ok_ite (fun c => ok_so ⟨hB c, c⟩) (fun c => ?_)
  rw [so_bd, e_lengthT h, so_bd]
  refine ok_bd (P := fun C => C.size = x.n ∧ C.version = t.version ∧ Srt x C.starts x.n ∧ ∀ f : Int → Int, sm (fun i => f (C.starts i)) x.n = sm f x.n) ?_ ?_
  · refine ok_lpJ (fun z => (-1 ≤ z.1 ∧ z.1 < x.n) ∧ z.2.size = x.n - 1 - z.1 ∧ z.2.version = t.version ∧ Srt x z.2.starts z.2.size ∧ ∀ f : Int → Int, sm (fun i => f (z.2.starts i)) z.2.size + sm f (z.1 + 1) = sm f x.n) (fun z => z.1 + 1) ?_ n _ ?_ (by dsimp only; omega)
    · rintro ⟨v, B⟩ ⟨hv, hs, hr, hA, hf⟩
      dsimp only at hv hs hr hA hf ⊢
      refine ⟨by omega, ?_⟩
      unfold p_X0_refresh_b32
      dsimp only
      rw [ck_w (by omega)]
      refine ok_ite (fun d => ?_) (fun d => ?_)
      · rw [show v = -1 by omega] at hf hs
        refine ok_so ⟨by omega, hr, by rw [show x.n = B.size by omega]; exact hA, fun f => ?_⟩
        have := hf f
        rw [sm_0 (f := f) (n := -1 + 1) (by omega)] at this
        rw [← this, show x.n = B.size by omega]; omega
      · refine ok_bd (e_insert hn h (B := B) (v := v) (by omega) (by omega) hA) ?_
        rintro C ⟨c1, c2, c3, c4, c5⟩
        refine ok_so ⟨⟨by dsimp only; omega, by dsimp only; omega, by dsimp only; omega, c4, fun f => ?_⟩, by dsimp only; omega⟩
        dsimp only
        have := hf f
        rw [sm_s (by omega)] at this
        rw [c5, ← this, show v + -1 + 1 = v by omega]; omega
    · refine ⟨by dsimp only; omega, ?_, rfl, ?_, ?_⟩
      · show (0 : Int) = _; dsimp only; omega
      · exact ⟨fun i j a b c => absurd c (show ¬ j < 0 by omega), fun i a b => absurd b (show ¬ i < 0 by omega)⟩
      · intro f
        show sm _ 0 + _ = _
        dsimp only
        rw [sm_0 (Int.le_refl 0), show x.n - 1 + 1 = x.n by omega]; omega
  · rintro C ⟨c1, c2, hA, hf⟩
    refine ok_bd (P := fun N => ∀ k, 0 ≤ k → k < x.n → N k = if k = 0 then 0 else lc x (C.starts (k - 1)) x (C.starts k)) ?_ (fun N hN => ok_so ⟨⟨c1, hA, hf, hN⟩, c2⟩)
    refine ok_lpJ (fun z => (0 ≤ z.1 ∧ z.1 ≤ x.n) ∧ ∀ k, 0 ≤ k → k < z.1 → z.2 k = if k = 0 then 0 else lc x (C.starts (k - 1)) x (C.starts k)) (fun z => x.n - z.1) ?_ n _ ⟨by dsimp only; omega, fun i a b => absurd b (by dsimp only; omega)⟩ (by dsimp only; omega)
    rintro ⟨k, N⟩ ⟨hk, hN⟩
    dsimp only at hk hN ⊢
    refine ⟨by omega, ?_⟩
    unfold p_X0_refresh_b50
    dsimp only
    rw [c1, ck_w (by omega), ck_w (by omega)]
    refine ok_ite (fun c => ?_) (fun c => ?_)
    · refine ok_ite (fun d => ?_) (fun d => ?_)
      · rw [ix_of (by omega)]
        refine ok_so ⟨⟨by dsimp only; omega, fun i a b => ?_⟩, by dsimp only; omega⟩
        dsimp only at b ⊢
        by_cases q : i = k
        · rw [q, up_s, if_pos d]
        · rw [up_n _ _ q]; exact hN i a (by omega)
      · have i1 := hA.2 (k - 1) (by omega) (by omega)
        have i2 := hA.2 k hk.1 c
        rw [ix_of (by omega), ix_of (by omega), shared_al, e_sharedFrom hn h h (by omega) (by omega), so_bd]
        refine ok_so ⟨⟨by dsimp only; omega, fun i a b => ?_⟩, by dsimp only; omega⟩
        dsimp only at b ⊢
        by_cases q : i = k
        · rw [q, up_s, if_neg d]
        · rw [up_n _ _ q]; exact hN i a (by omega)
    · exact ok_so (fun i a b => hN i a (by omega))
section UN
variable {x : MT} {A N A' N' : Row}
theorem ord_half (hx : MOk x) (h : SrtOk x A N) (h' : SrtOk x A' N') {k : Int} (hk : 0 ≤ k ∧ k < x.n) : ¬ Bf x (A k) (A' k) := by
  intro c
  have e1 := h.2.1 (fun q => ind (¬ Bf x (A k) q))
  have e2 := h'.2.1 (fun q => ind (¬ Bf x (A k) q))
  have b1 : k + 1 ≤ sm (fun i => ind (¬ Bf x (A k) (A i))) x.n := by
    have a1 : sm (fun i => ind (i < k + 1)) x.n ≤ sm (fun i => ind (¬ Bf x (A k) (A i))) x.n := by
      refine sm_le (fun i i0 i1 => ?_)
      by_cases d : i < k + 1
      · have : ¬ Bf x (A k) (A i) := by
          by_cases g : i = k
          · rw [g]; exact Bf_ir hx _
          · exact h.1.1 i k i0 (by omega) hk.2
        rw [ind_t d, ind_t this]; omega
      · rw [ind_f d]; exact ind_nn _
    have a2 : sm (fun i => ind (i < k + 1)) x.n = k + 1 := by
      rw [sm_tail (a := k + 1) (by omega) (fun p a b c => ind_f (by omega)), sm_cg (g := fun _ => 1) (fun i a b => ind_t b), sm_c 1 (by omega)]; omega
    omega
  have b2 : sm (fun i => ind (¬ Bf x (A k) (A' i))) x.n ≤ k := by
    have z : ∀ p, k ≤ p → p < x.n → 0 ≤ p → ind (¬ Bf x (A k) (A' p)) = 0 := by
      intro p a b _
      refine ind_f (fun g => g ?_)
      by_cases g : p = k
      · rw [g]; exact c
      · exact Bf_tr hx c (h'.1.1 k p hk.1 (by omega) b)
    rw [sm_tail (a := k) (by omega) z]
    have := sm_le (f := fun i => ind (¬ Bf x (A k) (A' i))) (g := fun _ => 1) (n := k) (fun i a b => ind_le _)
    rw [sm_c 1 hk.1] at this; omega
  omega
theorem ord_un (hx : MOk x) (h : SrtOk x A N) (h' : SrtOk x A' N') {k : Int} (hk : 0 ≤ k ∧ k < x.n) : Eqs x (A k) (A' k) := Eqs_of hx (ord_half hx h h' hk) (ord_half hx h' h hk)
theorem Eqs_Sm (hx : MOk x) {p q l : Int} (h : Eqs x p q) (hl : 0 ≤ l ∧ l ≤ x.R p) : Sm x p x q l := (lc_iff hx hx hl.1).mp (by rw [h.2]; exact hl.2)
theorem Eqs_sy (hx : MOk x) {p q : Int} (h : Eqs x p q) : Eqs x q p := ⟨h.1.symm, by rw [lc_sy hx hx, h.2]; exact h.1⟩
theorem lc_Eqs (hx : MOk x) {p q p' q' : Int} (h : Eqs x p p') (k : Eqs x q q') : lc x p x q = lc x p' x q' := by
  have key : ∀ p q p' q', Eqs x p p' → Eqs x q q' → lc x p x q ≤ lc x p' x q' := by
    intro p q p' q' h k
    have l0 := lc_nn hx hx p q
    have l1 := lc_le hx hx p q
    have s := lc_Sm hx hx p q
    exact (lc_iff hx hx l0).mpr (Sm_tr (Sm_sy (Eqs_Sm hx h ⟨l0, l1.1⟩)) (Sm_tr s (Eqs_Sm hx k ⟨l0, l1.2⟩)))
  have a := key p q p' q' h k
  have b := key p' q' p q (Eqs_sy hx h) (Eqs_sy hx k)
  omega
theorem near_un (hx : MOk x) (h : SrtOk x A N) (h' : SrtOk x A' N') {k : Int} (hk : 0 ≤ k ∧ k < x.n) : N k = N' k := by
  rw [h.2.2 k hk.1 hk.2, h'.2.2 k hk.1 hk.2]
  by_cases c : k = 0
  · rw [if_pos c, if_pos c]
  · rw [if_neg c, if_neg c]
    exact lc_Eqs hx (ord_un hx h h' (by omega)) (ord_un hx h h' hk)
/-- how often the stretch of l letters at p stands -/
noncomputable def cnt (x : MT) (p l : Int) : Int := sm (fun q => ind (Sm x q x p l)) x.n
theorem cnt_Sm {p q l : Int} (h : Sm x p x q l) : cnt x p l = cnt x q l := sm_cg (fun i _ _ => ind_i ⟨fun s => Sm_tr s h, fun s => Sm_tr s (Sm_sy h)⟩)
theorem cnt_inv (F : Int → Int → Int) : Inv x (fun p l => F (cnt x p l) l) := fun p q l hl s => by dsimp only; rw [cnt_Sm s]
theorem cnt_le (hx : MOk x) (p l : Int) : 0 ≤ cnt x p l ∧ cnt x p l ≤ x.n := by
  refine ⟨sm_nn (fun i _ _ => ind_nn _), ?_⟩
  have := sm_le (f := fun q => ind (Sm x q x p l)) (g := fun _ => 1) (n := x.n) (fun i a b => ind_le _)
  rw [sm_c 1 hx.1.1] at this
  unfold cnt; omega
theorem cnt_pos (hx : MOk x) {p l : Int} (hl : 1 ≤ l ∧ l ≤ x.R p) : 1 ≤ cnt x p l := by
  have := R_in hx (p := p) (by omega)
  have := sm_ge (f := fun q => ind (Sm x q x p l)) this (fun i _ _ => ind_nn _)
  rw [ind_t (Sm_rf hl.2)] at this
  exact this
theorem e_mendsOf {n : Nat} (hn : 1000 ≤ n) {m : MtS} (hm : MX 0 x m) {s : MsS} (h : SrtOk x s.sorted s.near) {k l : Int} (hk : 0 ≤ k ∧ k < x.n) (hl : 1 ≤ l ∧ l ≤ 60) (hN : s.near k < l) (hR : l ≤ x.R (s.sorted k)) : p_X7_endsOf n m s k l = some (cnt x (s.sorted k) l) := by
  have hx := hm.1
  have nn := hx.1
  have hM : m.many 0 = x.n := hm.2.1
  unfold p_X7_endsOf
  have : Ok (lp (p_X7_endsOf_b4 n m s l) n (k + 1)) (fun r => r - k = cnt x (s.sorted k) l) := by
    refine ok_lpJ (fun z => (k < z ∧ z ≤ x.n) ∧ ∀ j, k ≤ j → j < z → Sm x (s.sorted j) x (s.sorted k) l) (fun z => x.n - z) ?_ n _ ⟨by omega, fun j a b => by rw [show j = k by omega]; exact Sm_rf hR⟩ (by omega)
    rintro z ⟨hz, hs⟩
    refine ⟨by omega, ?_⟩
    have fin : (∀ j, z ≤ j → j < x.n → ¬ Sm x (s.sorted j) x (s.sorted k) l) → z - k = cnt x (s.sorted k) l := by
      intro q
      have e1 := h.2.1 (fun q => ind (Sm x q x (s.sorted k) l))
      unfold cnt
      rw [← e1, sm_tail (a := z) hz.2 (fun p a b c => ind_f (q p a b))]
      have e2 : sm (fun i => ind (Sm x (s.sorted i) x (s.sorted k) l)) z = sm (fun i => ind (k - 1 < i ∧ i ≤ z - 1)) z := by
        refine sm_cg (fun i a b => ind_i ⟨fun c => ?_, fun c => hs i (by omega) b⟩)
        refine ⟨?_, by omega⟩
        by_cases g : k - 1 < i
        · exact g
        · exact absurd c ((near_iff hx h hk hl.1).mpr hN i a (by omega))
      by_cases g : k = 0
      · rw [e2, sm_cg (g := fun _ => 1) (fun i a b => ind_t (by omega)), sm_c 1 (by omega)]; omega
      · rw [e2, sm_between (by omega) (by omega) (by omega)]; omega
    unfold p_X7_endsOf_b4
    rw [hM, ck_w (by omega), ck_w (by omega)]
    refine ok_ite (fun d => ?_) (fun d => ?_)
    · have nb := near_nn hx h (k := z) (by omega)
      have := R_le hx (s.sorted z)
      rw [ix_of (by omega), ck_w (by omega), ck_w (by omega)]
      refine ok_ite (fun g => ?_) (fun g => ?_)
      · refine ok_so (fin (fun j a b c => ?_))
        have nz := (near_iff hx h (k := z) (by omega) hl.1).mpr g k hk.1 hz.1
        by_cases w : j = z
        · rw [w] at c; exact nz (Sm_sy c)
        · exact nz (between hx (h.1.1 k z hk.1 hz.1 d) (h.1.1 z j (by omega) (by omega) b) (Sm_sy c))
      · refine ok_so ⟨⟨by omega, fun j a b => ?_⟩, by dsimp only; omega⟩
        by_cases w : j = z
        · have e := h.2.2 z (by omega) d
          rw [if_neg (by omega)] at e
          have s1 := (lc_iff hx hx (by omega)).mp (show l ≤ lc x (s.sorted (z - 1)) x (s.sorted z) by omega)
          rw [w]; exact Sm_tr (Sm_sy s1) (hs (z - 1) (by omega) (by omega))
        · exact hs j a (by omega)
    · exact ok_so (fin (fun j a b => by omega))
  obtain ⟨r, e1, e2⟩ := this
  rw [e1, so_bd, e2]
end UN
