/-! absent -/
section AB
variable {n : Nat} {x : MT} {m : MtS} {T : TxtS}
def sqP (f : Int → Int) (L : Int) : PadS := (fun i => f i + 97, L)
theorem sqP_ok {f : Int → Int} {L : Int} (hL : 1 ≤ L ∧ L ≤ 60) (hf : ∀ i, 0 ≤ i → i < L → 0 ≤ f i ∧ f i < 8) : PatOk (sqP f L) := ⟨hL, fun i a b => by have := hf i a b; show 97 ≤ f i + 97 ∧ f i + 97 ≤ 104; omega⟩
theorem sq_TX {Q : TxtS} {L : Int} (h : OneW L Q) (hL : 1 ≤ L ∧ L ≤ 60) (hf : ∀ i, 0 ≤ i → i < L → 0 ≤ Q.letters i ∧ Q.letters i < 8) : TX (pm (sqP Q.letters L)) Q := by
  obtain ⟨t1, t2, t3⟩ := h
  refine ⟨?_, pm_ok (sqP_ok hL hf)⟩
  show (Q.length, mk Q.length Q.letters, mk Q.length Q.words, mk Q.length Q.places, mk Q.length Q.rests) = (L, mk L (fun i => Q.letters i + 97 - 97), mk L (fun _ => 0), mk L (fun i => i), mk L (fun i => L - i))
  rw [t1, mk_cg (r := Q.letters) (q := fun i => Q.letters i + 97 - 97) (fun p a b => by omega), mk_cg (fun p a b => (t3 p a b).1), mk_cg (fun p a b => (t3 p a b).2.1), mk_cg (fun p a b => (t3 p a b).2.2)]
/-- the sequence f stands at p -/
def Sf (x : MT) (f : Int → Int) (L p : Int) : Prop := L ≤ x.R p ∧ ∀ i, 0 ≤ i → i < L → x.L (p + i) = f i
theorem Sf_At {f : Int → Int} {L p : Int} (hL : 1 ≤ L) : At x (pm (sqP f L)) p ↔ Sf x f L p := by
  have e : ∀ i, 0 ≤ i → i < L → (pm (sqP f L)).L (0 + i) = f i := by
    intro i a b
    rw [show (0 : Int) + i = i by omega, (pm_at (P := sqP f L) (i := i) ⟨a, b⟩).1]
    show f i + 97 - 97 = f i
    omega
  have r : (pm (sqP f L)).R 0 = L := by
    rw [(pm_at (P := sqP f L) (i := 0) ⟨by omega, by show (0 : Int) < L; omega⟩).2.2]
    show L - 0 = L
    omega
  have nL : (pm (sqP f L)).n = L := rfl
  unfold At Sm Sf
  rw [nL, r]
  exact ⟨fun ⟨a, _, c⟩ => ⟨a, fun i u v => (c i u v).trans (e i u v)⟩, fun ⟨a, c⟩ => ⟨a, Int.le_refl _, fun i u v => (c i u v).trans (e i u v).symm⟩⟩
theorem e_tried (hn : 1000 ≤ n) (h : MX 0 x m) {r : MrS} {L : Int} (hL : 1 ≤ L ∧ L ≤ 60) (hf : ∀ i, 0 ≤ i → i < L → 0 ≤ r i ∧ r i < 8) : ((∃ p, Sf x r L p) → p_X7_isTriedFactor n m r L = some 1) ∧ ((¬ ∃ p, Sf x r L p) → p_X7_isTriedFactor n m r L = some 0) := by
  have hx := h.1
  have nn := hx.1
  have hm : m.many 0 = x.n := h.2.1
  have this : Ok (lp (p_X7_isTriedFactor_b2 n m r L) n 0) (fun q => (q = .inl 1 ∧ ∃ p, Sf x r L p) ∨ (q = .inr () ∧ ¬ ∃ p, Sf x r L p)) := by
    refine ok_lpJ (fun z => (0 ≤ z ∧ z ≤ x.n) ∧ ∀ p, 0 ≤ p → p < z → ¬ Sf x r L p) (fun z => x.n - z) ?_ n _ ⟨by omega, fun p a b => by omega⟩ (by omega)
    rintro z ⟨hz, hs⟩
    refine ⟨by omega, ?_⟩
    unfold p_X7_isTriedFactor_b2
    rw [hm, ck_w (by omega), ck_w (by omega)]
    refine ok_ite (fun d => ?_) (fun d => ok_so (Or.inr ⟨rfl, fun ⟨p, q⟩ => ?_⟩))
    · have rz := R_le hx z
      have rz0 := R_nn hx z
      have bz := hx.2.1 z hz.1 d
      have inner : ∀ t0 : Int, (t0 = 0 ∧ x.R z < L) ∨ (t0 = 1 ∧ L ≤ x.R z) → Ok (p_X7_isTriedFactor_j27 n m r L z t0) (LI (fun z => (0 ≤ z ∧ z ≤ x.n) ∧ ∀ p, 0 ≤ p → p < z → ¬ Sf x r L p) (fun z => x.n - z) (x.n - z) (fun q => (q = .inl 1 ∧ ∃ p, Sf x r L p) ∨ (q = .inr () ∧ ¬ ∃ p, Sf x r L p))) := by
        intro t0 ht
        unfold p_X7_isTriedFactor_j27
        refine ok_bd (P := fun q => (q = 1 ∧ Sf x r L z) ∨ (q = 0 ∧ ¬ Sf x r L z)) ?_ ?_
        · refine ok_lpJ (fun y => (0 ≤ y.2 ∧ y.2 ≤ L) ∧ ((y.1 = 1 ∧ L ≤ x.R z ∧ ∀ i, 0 ≤ i → i < y.2 → x.L (z + i) = r i) ∨ (y.1 = 0 ∧ ¬ Sf x r L z))) (fun y => L - y.2) ?_ n _ ⟨by dsimp only; omega, ?_⟩ (by dsimp only; omega)
          · rintro ⟨f, i⟩ ⟨hi, hy⟩
            dsimp only at hi hy ⊢
            refine ⟨by omega, ?_⟩
            unfold p_X7_isTriedFactor_b31
            dsimp only
            rw [ck_w (by omega), ck_w (by omega)]
            refine ok_ite (fun g => ?_) (fun g => ok_so ?_)
            · rw [ck_w (by omega)]
              refine ok_ite (fun w => ok_so (Or.inr ⟨w, ?_⟩)) (fun w => ?_)
              · rcases hy with u | u
                · omega
                · exact u.2
              · obtain ⟨y1, y2, y3⟩ := hy.resolve_right (fun u => w u.1)
                have fi := hf i hi.1 g
                have ll := L_in hx (z + i)
                rw [e_mletterAt h (by omega), so_bd, ix_of (by omega), ck_w (by omega), ck_w (by omega)]
                refine ok_ite (fun u => ?_) (fun u => ?_)
                · refine ok_so ⟨⟨by dsimp only; omega, Or.inl ⟨rfl, y2, fun j a b => ?_⟩⟩, by dsimp only; omega⟩
                  dsimp only at b
                  by_cases q : j = i
                  · rw [q]; exact u
                  · exact y3 j a (by omega)
                · exact ok_so ⟨⟨by dsimp only; omega, Or.inr ⟨rfl, fun q => u (q.2 i hi.1 g)⟩⟩, by dsimp only; omega⟩
            · rcases hy with ⟨y1, y2, y3⟩ | ⟨y1, y2⟩
              · exact Or.inl ⟨y1, y2, fun j a b => y3 j a (by omega)⟩
              · exact Or.inr ⟨y1, y2⟩
          · dsimp only
            rcases ht with ⟨a, b⟩ | ⟨a, b⟩
            · exact Or.inr ⟨a, fun q => by have := q.1; omega⟩
            · exact Or.inl ⟨a, b, fun i u v => by omega⟩
        · rintro q (⟨rfl, w⟩ | ⟨rfl, w⟩)
          · rw [ck_w (by omega), if_neg (by omega)]
            exact ok_so (Or.inl ⟨rfl, z, w⟩)
          · rw [ck_w (by omega), if_pos rfl]
            refine ok_so ⟨⟨by omega, fun p a b => ?_⟩, by dsimp only; omega⟩
            by_cases q : p = z
            · rw [q]; exact w
            · exact hs p a (by omega)
      rw [e_rest (Or.inl rfl) h ⟨hz.1, d⟩, so_bd, ck_w (by omega), ck_w (by omega)]
      exact ok_ite (fun w => inner 0 (Or.inl ⟨rfl, w⟩)) (fun w => inner 1 (Or.inr ⟨rfl, by omega⟩))
    · have := R_in hx (p := p) (by have := q.1; omega)
      exact hs p this.1 (by omega) q
  obtain ⟨q, e1, e2⟩ := this
  unfold p_X7_isTriedFactor
  rw [e1, so_bd]
  rcases e2 with ⟨rfl, q⟩ | ⟨rfl, q⟩
  · exact ⟨fun _ => rfl, fun c => absurd q c⟩
  · exact ⟨fun c => absurd c q, fun _ => rfl⟩
theorem e_first (hn : 1000 ≤ n) {Q : TxtS} {L : Int} (hL : 1 ≤ L ∧ L ≤ 60) : Ok (p_X5_takeFirstSequence n Q L) (fun q => OneW L q ∧ ∀ i, 0 ≤ i → i < L → q.letters i = 0) := by
  unfold p_X5_takeFirstSequence
  refine ok_bd (e_one hn (by omega)) (fun T hT => ?_)
  obtain ⟨t1, t2, t3⟩ := hT
  refine ok_bd (P := fun A => ∀ i, 0 ≤ i → i < L → A i = 0) ?_ (fun A hA => ok_so ⟨⟨t1, t2, t3⟩, hA⟩)
  refine ok_lpJ (fun z => (0 ≤ z.1 ∧ z.1 ≤ L) ∧ ∀ i, 0 ≤ i → i < z.1 → z.2 i = 0) (fun z => L - z.1) ?_ n _ ⟨by dsimp only; omega, fun i a b => by dsimp only at b; omega⟩ (by dsimp only; omega)
  rintro ⟨i, A⟩ ⟨hi, hA⟩
  dsimp only at hi hA ⊢
  refine ⟨by omega, ?_⟩
  unfold p_X5_takeFirstSequence_b7
  dsimp only
  rw [t1, ck_w (by omega), ck_w (by omega)]
  refine ok_ite (fun c => ?_) (fun c => ok_so (fun j a b => hA j a (by omega)))
  rw [ix_of (by omega)]
  refine ok_so ⟨⟨by dsimp only; omega, fun j a b => ?_⟩, by dsimp only; omega⟩
  dsimp only at b ⊢
  by_cases q : j = i
  · rw [q, up_s]
  · rw [up_n _ _ q]; exact hA j a (by omega)
end AB
