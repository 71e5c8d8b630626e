/-! the reference lays a version -/
def MLy (c : Int) (b : BT) (m : MtS) : Prop := m.many c = b.len ∧ m.words c = b.wc ∧ (∀ p, 0 ≤ p → p < b.len → m.text (60 * c + p) = b.letters p ∧ m.wordOf (60 * c + p) = b.words p) ∧ ∀ k, 0 ≤ k → k < b.wc → m.start (6 * c + k) = b.starts k ∧ m.stop (6 * c + k) = wend b k
/-- what belongs to the other text is as it was -/
def MSame (c : Int) (m m' : MtS) : Prop := (∀ i, i ≠ c → m'.many i = m.many i ∧ m'.words i = m.words i) ∧ (∀ i, i < 60 * c ∨ 60 * c + 60 ≤ i → m'.text i = m.text i ∧ m'.wordOf i = m.wordOf i) ∧ ∀ i, i < 6 * c ∨ 6 * c + 6 ≤ i → m'.start i = m.start i ∧ m'.stop i = m.stop i
def an (H : HisS) (w : Int) : Nat → Int
  | 0 => w
  | k + 1 => H.parents (an H w k)
def dep (H : HisS) (w : Int) : Int := H.wordCounts w + H.letterCounts w
theorem dep_s {H : HisS} (h : HH H) {w : Int} (hw : 1 ≤ w ∧ w < H.size) : dep H w = dep H (H.parents w) + 1 := by
  have hp := h.2.2.2 w hw.1 hw.2
  unfold dep
  by_cases c : H.steps w = -1
  · have := hp.2.2.2.2.1 c; omega
  · have := hp.2.2.2.2.2 c; omega
theorem dep_0 {H : HisS} (h : HH H) : dep H 0 = 0 := by unfold dep; have := h.2.1; omega
theorem an_in {H : HisS} (h : HH H) {w : Int} (hw : 0 ≤ w ∧ w < H.size) : ∀ k : Nat, (k : Int) ≤ dep H w → 0 ≤ an H w k ∧ an H w k < H.size ∧ dep H (an H w k) = dep H w - k := by
  intro k
  induction k with
  | zero => intro _; exact ⟨hw.1, hw.2, by show dep H w = dep H w - ((0 : Nat) : Int); omega⟩
  | succ k ih =>
    intro hk
    obtain ⟨a, b, c⟩ := ih (by omega)
    have hne : an H w k ≠ 0 := by
      intro e
      rw [e, dep_0 h] at c
      omega
    have hp := h.2.2.2 (an H w k) (by omega) b
    have hd := dep_s h (w := an H w k) ⟨by omega, b⟩
    show 0 ≤ H.parents (an H w k) ∧ H.parents (an H w k) < H.size ∧ dep H (H.parents (an H w k)) = dep H w - ((k + 1 : Nat) : Int)
    omega
/-- one step more -/
theorem MLy_s {c st : Int} {b : BT} {m : MtS} (hc : c = 0 ∨ c = 1) (hb : BOk b) (h : MLy c b m) (hw : st = -1 → b.wc < 6) (hl : st ≠ -1 → b.len < 60 ∧ 1 ≤ b.wc) :
    MLy c (bx b st) (if st = -1 then (m.text, m.wordOf, up m.start (6 * c + m.words c) (m.many c), up m.stop (6 * c + m.words c) (m.many c), m.many, up m.words c (m.words c + 1), m.line) else (up m.text (60 * c + m.many c) st, up m.wordOf (60 * c + m.many c) (m.words c - 1), m.start, up m.stop (6 * c + m.words c - 1) (m.many c + 1), up m.many c (m.many c + 1), m.words, m.line)) := by
  obtain ⟨h1, h2, h3, h4⟩ := h
  obtain ⟨b1, b2, b3, b4, b5, b6⟩ := hb
  by_cases e : st = -1
  · have hw := hw e
    have ex : bx b st = (b.letters, b.words, up b.starts b.wc b.len, b.wc + 1, b.len) := if_pos e
    rw [if_pos e, ex]
    refine ⟨h1, ?_, h3, fun k q r => ?_⟩
    · show up m.words c (m.words c + 1) c = b.wc + 1
      rw [up_s, h2]
    · have r : k < b.wc + 1 := r
      show up m.start (6 * c + m.words c) (m.many c) (6 * c + k) = up b.starts b.wc b.len k ∧ up m.stop (6 * c + m.words c) (m.many c) (6 * c + k) = (if k + 1 < b.wc + 1 then up b.starts b.wc b.len (k + 1) else b.len)
      rw [h1, h2]
      by_cases g : k = b.wc
      · subst g
        rw [up_s, up_s, up_s, if_neg (by omega)]
        exact ⟨rfl, rfl⟩
      · have := h4 k q (by omega)
        rw [if_pos (show k + 1 < b.wc + 1 by omega)]
        have e1 : up m.start (6 * c + b.wc) b.len (6 * c + k) = m.start (6 * c + k) := up_n _ _ (by omega)
        have e2 : up m.stop (6 * c + b.wc) b.len (6 * c + k) = m.stop (6 * c + k) := up_n _ _ (by omega)
        rw [e1, e2, up_n b.starts _ g]
        refine ⟨this.1, this.2.trans ?_⟩
        unfold wend
        by_cases u : k + 1 = b.wc
        · rw [u, up_s, if_neg (by omega)]
        · rw [if_pos (by omega), up_n _ _ u]
  · have hl := hl e
    have ex : bx b st = (up b.letters b.len st, up b.words b.len (b.wc - 1), b.starts, b.wc, b.len + 1) := if_neg e
    rw [if_neg e, ex]
    refine ⟨?_, h2, fun p q r => ?_, fun k q r => ?_⟩
    · show up m.many c (m.many c + 1) c = b.len + 1
      rw [up_s, h1]
    · have r : p < b.len + 1 := r
      show up m.text (60 * c + m.many c) st (60 * c + p) = up b.letters b.len st p ∧ up m.wordOf (60 * c + m.many c) (m.words c - 1) (60 * c + p) = up b.words b.len (b.wc - 1) p
      rw [h1, h2]
      by_cases g : p = b.len
      · subst g; rw [up_s, up_s, up_s, up_s]; exact ⟨rfl, rfl⟩
      · rw [up_n m.text _ (by omega), up_n m.wordOf _ (by omega), up_n b.letters _ g, up_n b.words _ g]; exact h3 p q (by omega)
    · have r : k < b.wc := r
      have := h4 k q r
      show m.start (6 * c + k) = b.starts k ∧ up m.stop (6 * c + m.words c - 1) (m.many c + 1) (6 * c + k) = (if k + 1 < b.wc then b.starts (k + 1) else b.len + 1)
      rw [h1, h2]
      refine ⟨this.1, ?_⟩
      by_cases g : k + 1 < b.wc
      · rw [up_n _ _ (by omega), if_pos g, this.2]
        unfold wend
        rw [if_pos g]
      · rw [show 6 * c + b.wc - 1 = 6 * c + k by omega, up_s, if_neg g]
theorem e_lay {n : Nat} (hn : 1000 ≤ n) {H : HisS} {V : MvS} (h : HH H) (hv : HV H V) {m : MtS} {c w : Int} (hc : c = 0 ∨ c = 1) (hw : 0 ≤ w ∧ w < H.size) : Ok (p_X7_lay n V m c w) (fun m' => MLy c (ct H w) m' ∧ MSame c m m') := by
  have hs := h.1
  have hb := h.2.2.1 w hw.1 hw.2
  have hdw : 0 ≤ dep H w ∧ dep H w ≤ 66 := by unfold dep; omega
  unfold p_X7_lay
  refine ok_bd (P := fun q => q.1 = dep H w ∧ ∀ j : Nat, (j : Int) < dep H w → q.2 j = H.steps (an H w j)) ?_ ?_
  · refine ok_lpI (fun z => ∃ k : Nat, z.1 = (k : Int) ∧ (k : Int) ≤ dep H w ∧ z.2.1 = an H w k ∧ ∀ j : Nat, (j : Int) < z.1 → z.2.2 j = H.steps (an H w j)) (fun z => z.2.1.toNat) ?_ n _ ?_ ?_
    · rintro ⟨i, u, ln⟩ ⟨k, rfl, hk, rfl, hj⟩
      dsimp only at hk hj ⊢
      refine ⟨by omega, ?_⟩
      obtain ⟨a1, a2, a3⟩ := an_in h hw k hk
      unfold p_X7_lay_b5
      dsimp only
      rw [ck_w (by omega)]
      refine ok_ite (fun q => ?_) (fun q => ?_)
      · have hd := dep_s h (w := an H w k) ⟨by omega, a2⟩
        have hp := h.2.2.2 (an H w k) (by omega) a2
        have hpd : 0 ≤ dep H (H.parents (an H w k)) := by
          have := h.2.2.1 (H.parents (an H w k)) hp.1 (by omega)
          unfold dep; omega
        rw [ix_of (by omega), ix_of (by omega), (hv.2.2.2 _ (by omega) a2).1, (hv.2.2.2 _ (by omega) a2).2]
        refine ok_so ⟨⟨k + 1, by dsimp only; omega, by omega, rfl, fun j r => ?_⟩, by dsimp only; omega⟩
        dsimp only at r ⊢
        by_cases g : j = k
        · subst g; rw [up_s]
        · rw [up_n _ _ (by omega)]; exact hj j (by omega)
      · have e : an H w k = 0 := by omega
        rw [e, dep_0 h] at a3
        exact ok_so ⟨by dsimp only; omega, fun j r => hj j (by omega)⟩
    · exact ⟨0, rfl, by omega, rfl, fun j r => absurd r (by show ¬ ((j : Int) < 0); omega)⟩
    · dsimp only; omega
  · rintro ⟨d, ln⟩ ⟨e1, e2⟩
    dsimp only at e1 e2 ⊢
    subst e1
    rw [ix_of (by omega)]
    refine ok_bd (P := fun q => MLy c (ct H w) (q.1, q.2.1, q.2.2.1, q.2.2.2.1, q.2.2.2.2.1, q.2.2.2.2.2, ln) ∧ MSame c m (q.1, q.2.1, q.2.2.1, q.2.2.2.1, q.2.2.2.2.1, q.2.2.2.2.2, ln)) ?_ (fun r q => ok_so q)
    refine ok_lpI (fun z => ∃ k : Nat, z.1 = (k : Int) - 1 ∧ (k : Int) ≤ dep H w ∧ MLy c (ct H (an H w k)) (z.2.1, z.2.2.1, z.2.2.2.1, z.2.2.2.2.1, z.2.2.2.2.2.1, z.2.2.2.2.2.2, ln) ∧ MSame c m (z.2.1, z.2.2.1, z.2.2.2.1, z.2.2.2.2.1, z.2.2.2.2.2.1, z.2.2.2.2.2.2, ln)) (fun z => z.1 + 1) ?_ n _ ?_ ?_
    · rintro ⟨i, tx, wo, st, sp, mn, wd⟩ ⟨k, hk1, hk2, hM, hS⟩
      dsimp only at hk1 hM hS ⊢
      subst hk1
      refine ⟨by omega, ?_⟩
      unfold p_X7_lay_b57
      dsimp only
      rw [ck_w (by omega)]
      refine ok_ite (fun q => ?_) (fun q => ?_)
      · have ek : k = 0 := by omega
        subst ek
        exact ok_so ⟨hM, hS⟩
      · obtain ⟨j, rfl⟩ : ∃ j : Nat, k = j + 1 := ⟨k - 1, by omega⟩
        have ej : ((j + 1 : Nat) : Int) - 1 = (j : Int) := by omega
        rw [ej]
        obtain ⟨a1, a2, a3⟩ := an_in h hw j (by omega)
        have hne : an H w j ≠ 0 := by
          intro e
          rw [e, dep_0 h] at a3
          omega
        have hp := h.2.2.2 (an H w j) (by omega) a2
        have hcs := ct_s h (w := an H w j) ⟨by omega, a2⟩
        have hcp := ct_wc h (H.parents (an H w j)) hp.1 (by omega)
        have hca := ct_wc h (an H w j) a1 a2
        have hba := h.2.2.1 (an H w j) a1 a2
        have hbp := h.2.2.1 (H.parents (an H w j)) hp.1 (by omega)
        have hbo := ct_ok h (H.parents (an H w j)) hp.1 (by omega)
        have hM : MLy c (ct H (H.parents (an H w j))) (tx, wo, st, sp, mn, wd, ln) := hM
        have hst := MLy_s (st := H.steps (an H w j)) hc hbo hM (fun e => by have := hp.2.2.2.2.1 e; omega) (fun e => by have := hp.2.2.2.2.2 e; omega)
        rw [← hcs] at hst
        have hmn : mn c = (ct H (H.parents (an H w j))).len := hM.1
        have hwd : wd c = (ct H (H.parents (an H w j))).wc := hM.2.1
        have hln : ln j = H.steps (an H w j) := e2 j (by omega)
        have hln2 : MtS.line (m.text, m.wordOf, m.start, m.stop, up m.many c 0, up m.words c 0, ln) (j : Int) = H.steps (an H w j) := hln
        rw [hln2, ix_of (by omega), ix_of (by omega), ck_w (by omega)]
        refine ok_ite (fun e => ?_) (fun e => ?_)
        · have := hp.2.2.2.2.1 e
          rw [if_pos e] at hst
          rw [ix_of (by omega)]
          refine ok_so ⟨⟨j, by dsimp only; omega, by omega, hst, ?_⟩, by dsimp only; omega⟩
          obtain ⟨s1, s2, s3⟩ := hS
          refine ⟨fun i hi => ⟨(s1 i hi).1, ?_⟩, s2, fun i hi => ?_⟩
          · show up wd c (wd c + 1) i = _
            rw [up_n _ _ hi]; exact (s1 i hi).2
          · show up st (6 * c + wd c) (mn c) i = _ ∧ up sp (6 * c + wd c) (mn c) i = _
            rw [up_n _ _ (by omega), up_n _ _ (by omega)]; exact s3 i hi
        · have := hp.2.2.2.2.2 e
          rw [if_neg e] at hst
          rw [ix_of (by omega), ix_of (by omega), up_s]
          refine ok_so ⟨⟨j, by dsimp only; omega, by omega, hst, ?_⟩, by dsimp only; omega⟩
          obtain ⟨s1, s2, s3⟩ := hS
          refine ⟨fun i hi => ⟨?_, (s1 i hi).2⟩, fun i hi => ?_, fun i hi => ⟨(s3 i hi).1, ?_⟩⟩
          · show up mn c (mn c + 1) i = _
            rw [up_n _ _ hi]; exact (s1 i hi).1
          · show up tx (60 * c + mn c) (H.steps (an H w j)) i = _ ∧ up wo (60 * c + mn c) (wd c - 1) i = _
            rw [up_n _ _ (by omega), up_n _ _ (by omega)]; exact s2 i hi
          · show up sp (6 * c + wd c - 1) (mn c + 1) i = _
            rw [up_n _ _ (by omega)]; exact (s3 i hi).2
    · obtain ⟨k, hk⟩ : ∃ k : Nat, dep H w = k := Int.eq_ofNat_of_zero_le hdw.1
      obtain ⟨a1, a2, a3⟩ := an_in h hw k (by omega)
      have e : an H w k = 0 := by
        by_cases g : an H w k = 0
        · exact g
        · have hd := dep_s h (w := an H w k) ⟨by omega, a2⟩
          have hp := h.2.2.2 (an H w k) (by omega) a2
          have := h.2.2.1 (H.parents (an H w k)) hp.1 (by omega)
          unfold dep at hd a3
          unfold dep at hk
          omega
      refine ⟨k, by dsimp only; omega, by omega, ?_, ?_⟩
      · rw [e, ct_0]
        refine ⟨?_, ?_, fun p q r => absurd r (by show ¬ (p < 0); omega), fun k q r => absurd r (by show ¬ (k < 0); omega)⟩
        · show up m.many c 0 c = 0; rw [up_s]
        · show up m.words c 0 c = 0; rw [up_s]
      · refine ⟨fun i hi => ?_, fun i _ => ⟨rfl, rfl⟩, fun i _ => ⟨rfl, rfl⟩⟩
        show up m.many c 0 i = _ ∧ up m.words c 0 i = _
        rw [up_n _ _ hi, up_n _ _ hi]
        exact ⟨rfl, rfl⟩
    · dsimp only; omega
