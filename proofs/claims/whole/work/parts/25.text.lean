/-! the text of a version: letters, words of the letters, starts of the words, how many words, how many letters -/
abbrev BT : Type := Row × Row × Row × Int × Int
abbrev BT.letters (b : BT) : Row := b.1
abbrev BT.words (b : BT) : Row := b.2.1
abbrev BT.starts (b : BT) : Row := b.2.2.1
abbrev BT.wc (b : BT) : Int := b.2.2.2.1
abbrev BT.len (b : BT) : Int := b.2.2.2.2
def b0 : BT := (fun _ => 0, fun _ => 0, fun _ => 0, 0, 0)
def bx (b : BT) (st : Int) : BT := if st = -1 then (b.letters, b.words, up b.starts b.wc b.len, b.wc + 1, b.len) else (up b.letters b.len st, up b.words b.len (b.wc - 1), b.starts, b.wc, b.len + 1)
def vb (H : HisS) : Nat → Int → BT
  | 0, _ => b0
  | k + 1, w => if w ≤ 0 then b0 else bx (vb H k (H.parents w)) (H.steps w)
def ct (H : HisS) (w : Int) : BT := vb H (w.toNat + 1) w
theorem vb_st {H : HisS} (h : HH H) : ∀ (k j : Nat) (w : Int), w < H.size → w < k → w < j → vb H k w = vb H j w := by
  intro k
  induction k with
  | zero => intro j w _ h1 h2; cases j with
    | zero => rfl
    | succ j => show b0 = if w ≤ 0 then b0 else _; rw [if_pos (by omega)]
  | succ k ih =>
    intro j w hw h1 h2
    cases j with
    | zero => show (if w ≤ 0 then b0 else _) = b0; rw [if_pos (by omega)]
    | succ j =>
      show (if w ≤ 0 then b0 else bx (vb H k (H.parents w)) (H.steps w)) = (if w ≤ 0 then b0 else bx (vb H j (H.parents w)) (H.steps w))
      by_cases c : w ≤ 0
      · rw [if_pos c, if_pos c]
      · rw [if_neg c, if_neg c]
        have hp := h.2.2.2 w (by omega) hw
        rw [ih j (H.parents w) (by omega) (by omega) (by omega)]
theorem ct_0 (H : HisS) : ct H 0 = b0 := rfl
theorem ct_s {H : HisS} (h : HH H) {w : Int} (hw : 1 ≤ w ∧ w < H.size) : ct H w = bx (ct H (H.parents w)) (H.steps w) := by
  have hp := h.2.2.2 w hw.1 hw.2
  show (if w ≤ 0 then b0 else bx (vb H w.toNat (H.parents w)) (H.steps w)) = _
  rw [if_neg (by omega)]
  unfold ct
  rw [vb_st h w.toNat ((H.parents w).toNat + 1) (H.parents w) (by omega) (by omega) (by omega)]
/-- along the versions -/
theorem ver_ind {H : HisS} (h : HH H) {P : Int → Prop} (h0 : P 0) (hs : ∀ w, 1 ≤ w → w < H.size → P (H.parents w) → P w) : ∀ w, 0 ≤ w → w < H.size → P w := by
  have key : ∀ k : Nat, ∀ w, 0 ≤ w → w < H.size → w < k → P w := by
    intro k
    induction k with
    | zero => intro w a b c; omega
    | succ k ih =>
      intro w a b c
      by_cases e : w = 0
      · subst e; exact h0
      · have hp := h.2.2.2 w (by omega) b
        exact hs w (by omega) b (ih _ (by omega) (by omega) (by omega))
  intro w a b
  exact key (w.toNat + 1) w a b (by omega)
theorem ct_ext {H H' : HisS} (h : HH H) (h' : HH H') (e : Ext H H') : ∀ w, 0 ≤ w → w < H.size → ct H' w = ct H w := by
  refine ver_ind h rfl (fun w a b ih => ?_)
  have hw := e.2 w (by omega) b
  have hs := e.1
  rw [ct_s h' ⟨a, by omega⟩, ct_s h ⟨a, b⟩, hw.1, hw.2.1, ih]
theorem bx_wc (b : BT) (st : Int) : (bx b st).wc = b.wc + (if st = -1 then 1 else 0) ∧ (bx b st).len = b.len + (if st = -1 then 0 else 1) := by
  unfold bx
  by_cases c : st = -1
  · rw [if_pos c, if_pos c, if_pos c]; exact ⟨rfl, (Int.add_zero _).symm⟩
  · rw [if_neg c, if_neg c, if_neg c]; exact ⟨(Int.add_zero _).symm, rfl⟩
theorem ct_wc {H : HisS} (h : HH H) : ∀ w, 0 ≤ w → w < H.size → (ct H w).wc = H.wordCounts w ∧ (ct H w).len = H.letterCounts w := by
  refine ver_ind h ⟨h.2.1.1.symm, h.2.1.2.symm⟩ (fun w a b ih => ?_)
  have hp := h.2.2.2 w a b
  have hx := bx_wc (ct H (H.parents w)) (H.steps w)
  rw [ct_s h ⟨a, b⟩, hx.1, hx.2, ih.1, ih.2]
  by_cases c : H.steps w = -1
  · rw [if_pos c, if_pos c]; have := hp.2.2.2.2.1 c; omega
  · rw [if_neg c, if_neg c]; have := hp.2.2.2.2.2 c; omega
/-- the end of a word -/
def wend (b : BT) (k : Int) : Int := if k + 1 < b.wc then b.starts (k + 1) else b.len
def BOk (b : BT) : Prop := (0 ≤ b.wc ∧ b.wc ≤ 6) ∧ (0 ≤ b.len ∧ b.len ≤ 60) ∧ (b.wc = 0 → b.len = 0) ∧ (∀ k, 0 ≤ k → k < b.wc → 0 ≤ b.starts k ∧ b.starts k ≤ b.len) ∧ (∀ j k, 0 ≤ j → j ≤ k → k < b.wc → b.starts j ≤ b.starts k) ∧ (∀ p, 0 ≤ p → p < b.len → 0 ≤ b.letters p ∧ b.letters p ≤ 7 ∧ 0 ≤ b.words p ∧ b.words p < b.wc ∧ b.starts (b.words p) ≤ p ∧ p < wend b (b.words p))
theorem BOk_0 : BOk b0 := by
  refine ⟨by decide, by decide, fun _ => rfl, fun k a b => ?_, fun j k a b c => ?_, fun p a b => ?_⟩
  · have : k < 0 := b; omega
  · have : k < 0 := c; omega
  · have : p < 0 := b; omega
theorem BOk_w {b : BT} (h : BOk b) (hw : b.wc < 6) : BOk (bx b (-1)) := by
  obtain ⟨h1, h2, h3, h4, h5, h6⟩ := h
  have e : bx b (-1) = (b.letters, b.words, up b.starts b.wc b.len, b.wc + 1, b.len) := if_pos rfl
  rw [e]
  refine ⟨by show 0 ≤ b.wc + 1 ∧ b.wc + 1 ≤ 6; omega, h2, fun q => absurd (show b.wc + 1 = 0 from q) (by omega), fun k a c => ?_, fun j k a c d => ?_, fun p a c => ?_⟩
  · have c : k < b.wc + 1 := c
    show 0 ≤ up b.starts b.wc b.len k ∧ up b.starts b.wc b.len k ≤ b.len
    by_cases g : k = b.wc
    · subst g; rw [up_s]; omega
    · rw [up_n _ _ g]; exact h4 k a (by omega)
  · have d : k < b.wc + 1 := d
    show up b.starts b.wc b.len j ≤ up b.starts b.wc b.len k
    by_cases g : k = b.wc
    · subst g; rw [up_s]
      by_cases g2 : j = b.wc
      · rw [g2, up_s]; omega
      · rw [up_n _ _ g2]; exact (h4 j a (by omega)).2
    · rw [up_n _ _ g, up_n _ _ (by omega)]; exact h5 j k a c (by omega)
  · obtain ⟨q1, q2, q3, q4, q5, q6⟩ := h6 p a c
    show 0 ≤ b.letters p ∧ b.letters p ≤ 7 ∧ 0 ≤ b.words p ∧ b.words p < b.wc + 1 ∧ up b.starts b.wc b.len (b.words p) ≤ p ∧ p < (if b.words p + 1 < b.wc + 1 then up b.starts b.wc b.len (b.words p + 1) else b.len)
    rw [up_n _ _ (by omega), if_pos (by omega)]
    refine ⟨q1, q2, q3, by omega, q5, ?_⟩
    unfold wend at q6
    by_cases g : b.words p + 1 = b.wc
    · rw [g, up_s]; exact c
    · rw [up_n _ _ g]; rw [if_pos (by omega)] at q6; exact q6
theorem BOk_l {b : BT} {st : Int} (h : BOk b) (hs : 0 ≤ st ∧ st ≤ 7) (hl : b.len < 60) (hw : 1 ≤ b.wc) : BOk (bx b st) := by
  obtain ⟨h1, h2, h3, h4, h5, h6⟩ := h
  have e : bx b st = (up b.letters b.len st, up b.words b.len (b.wc - 1), b.starts, b.wc, b.len + 1) := if_neg (by omega)
  rw [e]
  refine ⟨h1, by show 0 ≤ b.len + 1 ∧ b.len + 1 ≤ 60; omega, fun q => absurd (show b.wc = 0 from q) (by omega), fun k a c => ?_, h5, fun p a c => ?_⟩
  · have := h4 k a c
    show 0 ≤ b.starts k ∧ b.starts k ≤ b.len + 1; omega
  · have c : p < b.len + 1 := c
    show 0 ≤ up b.letters b.len st p ∧ up b.letters b.len st p ≤ 7 ∧ 0 ≤ up b.words b.len (b.wc - 1) p ∧ up b.words b.len (b.wc - 1) p < b.wc ∧ b.starts (up b.words b.len (b.wc - 1) p) ≤ p ∧ p < (if up b.words b.len (b.wc - 1) p + 1 < b.wc then b.starts (up b.words b.len (b.wc - 1) p + 1) else b.len + 1)
    by_cases g : p = b.len
    · subst g
      rw [up_s, up_s, if_neg (by omega)]
      have := h4 (b.wc - 1) (by omega) (by omega)
      exact ⟨hs.1, hs.2, by omega, by omega, this.2, by omega⟩
    · obtain ⟨q1, q2, q3, q4, q5, q6⟩ := h6 p a (by omega)
      rw [up_n _ _ g, up_n _ _ g]
      refine ⟨q1, q2, q3, q4, q5, ?_⟩
      unfold wend at q6
      by_cases u : b.words p + 1 < b.wc
      · rw [if_pos u] at q6 ⊢; exact q6
      · rw [if_neg u]; omega
theorem ct_ok {H : HisS} (h : HH H) : ∀ w, 0 ≤ w → w < H.size → BOk (ct H w) := by
  refine ver_ind h BOk_0 (fun w a b ih => ?_)
  have hp := h.2.2.2 w a b
  have hq := h.2.2.1 w (by omega) b
  have hc := ct_wc h (H.parents w) hp.1 (by omega)
  rw [ct_s h ⟨a, b⟩]
  by_cases c : H.steps w = -1
  · rw [c]
    exact BOk_w ih (by have := hp.2.2.2.2.1 c; omega)
  · have := hp.2.2.2.2.2 c
    exact BOk_l ih (by omega) (by omega) (by omega)
/-! the text as the questions see it -/
abbrev MT : Type := Int × Row × Row × Row × Row
abbrev MT.n (x : MT) : Int := x.1
abbrev MT.L (x : MT) : Row := x.2.1
abbrev MT.W (x : MT) : Row := x.2.2.1
abbrev MT.P (x : MT) : Row := x.2.2.2.1
abbrev MT.R (x : MT) : Row := x.2.2.2.2
def mk (n : Int) (r : Row) : Row := fun p => if 0 ≤ p ∧ p < n then r p else 0
theorem mk_in {n p : Int} (r : Row) (h : 0 ≤ p ∧ p < n) : mk n r p = r p := if_pos h
theorem mk_out {n p : Int} (r : Row) (h : ¬ (0 ≤ p ∧ p < n)) : mk n r p = 0 := if_neg h
theorem mk_cg {n : Int} {r q : Row} (h : ∀ p, 0 ≤ p → p < n → r p = q p) : mk n r = mk n q := by
  funext p
  by_cases c : 0 ≤ p ∧ p < n
  · rw [mk_in _ c, mk_in _ c, h p c.1 c.2]
  · rw [mk_out _ c, mk_out _ c]
def nb (b : BT) : MT := (b.len, mk b.len b.letters, mk b.len b.words, mk b.len (fun p => p - b.starts (b.words p)), mk b.len (fun p => wend b (b.words p) - p))
def nx (t : TxtS) : MT := (t.length, mk t.length t.letters, mk t.length t.words, mk t.length t.places, mk t.length t.rests)
def MOk (x : MT) : Prop := (0 ≤ x.n ∧ x.n ≤ 60) ∧ (∀ p, 0 ≤ p → p < x.n → 0 ≤ x.L p ∧ x.L p ≤ 7 ∧ 0 ≤ x.W p ∧ x.W p < 6 ∧ 0 ≤ x.P p ∧ x.P p ≤ p ∧ 1 ≤ x.R p ∧ p + x.R p ≤ x.n) ∧
  (∀ p i, 0 ≤ p → p < x.n → 0 ≤ i → i < x.R p → x.W (p + i) = x.W p ∧ x.P (p + i) = x.P p + i ∧ x.R (p + i) = x.R p - i) ∧
  (∀ p i, 0 ≤ p → p < x.n → 0 ≤ i → i ≤ x.P p → x.W (p - i) = x.W p ∧ x.P (p - i) = x.P p - i ∧ x.R (p - i) = x.R p + i) ∧
  (∀ p, ¬ (0 ≤ p ∧ p < x.n) → x.L p = 0 ∧ x.W p = 0 ∧ x.P p = 0 ∧ x.R p = 0)
/-- a place belongs to the word in whose bounds it stands -/
theorem word_in {b : BT} (h : BOk b) {k q : Int} (hk : 0 ≤ k ∧ k < b.wc) (hq : b.starts k ≤ q ∧ q < wend b k) : (0 ≤ q ∧ q < b.len) ∧ b.words q = k := by
  obtain ⟨h1, h2, h3, h4, h5, h6⟩ := h
  have a := h4 k hk.1 hk.2
  have hql : q < b.len := by
    have := hq.2
    unfold wend at this
    by_cases c : k + 1 < b.wc
    · rw [if_pos c] at this; have := h4 (k + 1) (by omega) c; omega
    · rw [if_neg c] at this; exact this
  have hq0 : 0 ≤ q := by omega
  refine ⟨⟨hq0, hql⟩, ?_⟩
  obtain ⟨-, -, q3, q4, q5, q6⟩ := h6 q hq0 hql
  have hq2 := hq.2
  unfold wend at q6 hq2
  by_cases c : b.words q < k
  · rw [if_pos (by omega)] at q6
    have := h5 (b.words q + 1) k (by omega) (by omega) hk.2
    omega
  · by_cases d : k < b.words q
    · rw [if_pos (by omega)] at hq2
      have := h5 (k + 1) (b.words q) (by omega) (by omega) q4
      omega
    · omega
theorem nb_ok {b : BT} (h : BOk b) : MOk (nb b) := by
  obtain ⟨h1, h2, h3, h4, h5, h6⟩ := id h
  have hwe : ∀ p, 0 ≤ p → p < b.len → wend b (b.words p) ≤ b.len := by
    intro p a c
    obtain ⟨-, -, q3, q4, -, -⟩ := h6 p a c
    unfold wend
    by_cases u : b.words p + 1 < b.wc
    · rw [if_pos u]; exact (h4 _ (by omega) u).2
    · rw [if_neg u]; exact Int.le_refl _
  refine ⟨h2, fun p a c => ?_, fun p i a c d e => ?_, fun p i a c d e => ?_, fun p c => ?_⟩
  · have c : p < b.len := c
    obtain ⟨q1, q2, q3, q4, q5, q6⟩ := h6 p a c
    have q7 := h4 _ q3 q4
    have q8 := hwe p a c
    show 0 ≤ mk b.len b.letters p ∧ mk b.len b.letters p ≤ 7 ∧ 0 ≤ mk b.len b.words p ∧ mk b.len b.words p < 6 ∧ 0 ≤ mk b.len (fun p => p - b.starts (b.words p)) p ∧ mk b.len (fun p => p - b.starts (b.words p)) p ≤ p ∧ 1 ≤ mk b.len (fun p => wend b (b.words p) - p) p ∧ p + mk b.len (fun p => wend b (b.words p) - p) p ≤ b.len
    rw [mk_in _ ⟨a, c⟩, mk_in _ ⟨a, c⟩, mk_in _ ⟨a, c⟩, mk_in _ ⟨a, c⟩]
    omega
  · have c : p < b.len := c
    obtain ⟨q1, q2, q3, q4, q5, q6⟩ := h6 p a c
    have e : i < mk b.len (fun p => wend b (b.words p) - p) p := e
    rw [mk_in _ ⟨a, c⟩] at e
    obtain ⟨g1, g2⟩ := word_in h ⟨q3, q4⟩ (q := p + i) ⟨by omega, by omega⟩
    show mk b.len b.words (p + i) = mk b.len b.words p ∧ mk b.len (fun p => p - b.starts (b.words p)) (p + i) = mk b.len (fun p => p - b.starts (b.words p)) p + i ∧ mk b.len (fun p => wend b (b.words p) - p) (p + i) = mk b.len (fun p => wend b (b.words p) - p) p - i
    rw [mk_in _ g1, mk_in _ g1, mk_in _ g1, mk_in _ ⟨a, c⟩, mk_in _ ⟨a, c⟩, mk_in _ ⟨a, c⟩, g2]
    omega
  · have c : p < b.len := c
    obtain ⟨q1, q2, q3, q4, q5, q6⟩ := h6 p a c
    have e : i ≤ mk b.len (fun p => p - b.starts (b.words p)) p := e
    rw [mk_in _ ⟨a, c⟩] at e
    obtain ⟨g1, g2⟩ := word_in h ⟨q3, q4⟩ (q := p - i) ⟨by omega, by omega⟩
    show mk b.len b.words (p - i) = mk b.len b.words p ∧ mk b.len (fun p => p - b.starts (b.words p)) (p - i) = mk b.len (fun p => p - b.starts (b.words p)) p - i ∧ mk b.len (fun p => wend b (b.words p) - p) (p - i) = mk b.len (fun p => wend b (b.words p) - p) p + i
    rw [mk_in _ g1, mk_in _ g1, mk_in _ g1, mk_in _ ⟨a, c⟩, mk_in _ ⟨a, c⟩, mk_in _ ⟨a, c⟩, g2]
    omega
  · have c : ¬ (0 ≤ p ∧ p < b.len) := c
    show mk b.len b.letters p = 0 ∧ mk b.len b.words p = 0 ∧ mk b.len (fun p => p - b.starts (b.words p)) p = 0 ∧ mk b.len (fun p => wend b (b.words p) - p) p = 0
    exact ⟨mk_out _ c, mk_out _ c, mk_out _ c, mk_out _ c⟩
/-- a text object holds a version -/
def TV (H : HisS) (w : Int) (t : TxtS) : Prop := t.version = w ∧ t.wordCount = (ct H w).wc ∧ nx t = nb (ct H w) ∧ ∀ k, 0 ≤ k → k < (ct H w).wc → t.starts k = (ct H w).starts k
