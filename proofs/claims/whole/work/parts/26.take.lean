/-! a text object takes a version -/
theorem e_putStart {t : TxtS} {k v : Int} (h : 0 ≤ k ∧ k < 6) : p_X5_putStart t k v = some (t.letters, t.words, t.places, t.rests, up t.starts k v, t.wordCount, t.length, t.version) := by
  unfold p_X5_putStart
  simp (disch := omega) only [ck_w, ix_of, ite_true, ite_false, if_pos, if_neg]
theorem e_hasT {t : TxtS} {p : Int} (hp : InR p) (hl : 0 ≤ t.length ∧ t.length ≤ 60) : p_X5_has t p = some (if 0 ≤ p ∧ p < t.length then 1 else 0) := by
  unfold p_X5_has
  by_cases a : p < 0
  · simp (disch := omega) only [ck_w, ite_true, ite_false, if_pos, if_neg]
  · by_cases b : p < t.length
    · simp (disch := omega) only [ck_w, ite_true, ite_false, if_pos, if_neg]
    · simp (disch := omega) only [ck_w, ite_true, ite_false, if_pos, if_neg]
theorem e_putLetter {t : TxtS} {p l w : Int} (hl : 0 ≤ t.length ∧ t.length ≤ 60) (h : 0 ≤ p ∧ p < t.length) : p_X5_putLetter t p l w = some (up t.letters p l, up t.words p w, t.places, t.rests, t.starts, t.wordCount, t.length, t.version) := by
  unfold p_X5_putLetter
  rw [e_hasT (by omega) hl]
  simp (disch := omega) only [so_bd, ck_w, ix_of, ite_true, ite_false, if_pos, if_neg]
theorem e_wordStart {t : TxtS} {k : Int} (hw : 0 ≤ t.wordCount ∧ t.wordCount ≤ 6) (h : 0 ≤ k ∧ k < t.wordCount) : p_X5_wordStart t k = some (t.starts k) := by
  unfold p_X5_wordStart
  simp (disch := omega) only [ck_w, ix_of, ite_true, ite_false, if_pos, if_neg]
theorem e_wordEnd {t : TxtS} {k : Int} (hw : 0 ≤ t.wordCount ∧ t.wordCount ≤ 6) (h : 0 ≤ k ∧ k < t.wordCount) : p_X5_wordEnd t k = some (if k + 1 < t.wordCount then t.starts (k + 1) else t.length) := by
  unfold p_X5_wordEnd p_X5_wordStart
  by_cases c : k + 1 < t.wordCount
  · simp (disch := omega) only [so_bd, ck_w, ix_of, ite_true, ite_false, if_pos, if_neg]
  · simp (disch := omega) only [so_bd, ck_w, ix_of, ite_true, ite_false, if_pos, if_neg]
/-- the text of an ancestor is the beginning of a text -/
def Pre (a b : BT) : Prop := a.len ≤ b.len ∧ a.wc ≤ b.wc ∧ (∀ p, 0 ≤ p → p < a.len → b.letters p = a.letters p ∧ b.words p = a.words p) ∧ ∀ k, 0 ≤ k → k < a.wc → b.starts k = a.starts k
theorem Pre_rf (b : BT) : Pre b b := ⟨Int.le_refl _, Int.le_refl _, fun _ _ _ => ⟨rfl, rfl⟩, fun _ _ _ => rfl⟩
theorem Pre_up {a b : BT} {st : Int} (h : Pre (bx a st) b) : Pre a b := by
  obtain ⟨h1, h2, h3, h4⟩ := h
  have hx := bx_wc a st
  rw [hx.1] at h2 h4
  rw [hx.2] at h1 h3
  by_cases c : st = -1
  · rw [if_pos c] at h1 h2 h3 h4
    have e : bx a st = (a.letters, a.words, up a.starts a.wc a.len, a.wc + 1, a.len) := if_pos c
    rw [e] at h3 h4
    refine ⟨by omega, by omega, fun p q r => h3 p q (by omega), fun k q r => ?_⟩
    have := h4 k q (by omega)
    rw [this]
    show up a.starts a.wc a.len k = a.starts k
    rw [up_n _ _ (by omega)]
  · rw [if_neg c] at h1 h2 h3 h4
    have e : bx a st = (up a.letters a.len st, up a.words a.len (a.wc - 1), a.starts, a.wc, a.len + 1) := if_neg c
    rw [e] at h3 h4
    refine ⟨by omega, by omega, fun p q r => ?_, fun k q r => h4 k q (by omega)⟩
    have := h3 p q (by omega)
    rw [this.1, this.2]
    show up a.letters a.len st p = a.letters p ∧ up a.words a.len (a.wc - 1) p = a.words p
    rw [up_n _ _ (by omega), up_n _ _ (by omega)]
    exact ⟨rfl, rfl⟩
theorem e_takeVersion {n : Nat} (hn : 1000 ≤ n) {H : HisS} (h : HH H) {t : TxtS} {w : Int} (hw : 0 ≤ w ∧ w < H.size) (ht : InR t.version) (hc : t.version = w → TV H w t) : Ok (p_X5_takeVersion n t H w) (TV H w) := by
  have hs := h.1
  have hb := h.2.2.1 w hw.1 hw.2
  have hbo := ct_ok h w hw.1 hw.2
  have hcw := ct_wc h w hw.1 hw.2
  unfold p_X5_takeVersion
  refine ok_ck ht (ok_ck (by omega) (ok_ite (fun c => ok_so (hc c)) (fun c => ?_)))
  rw [e_wordsIn hs hw, so_bd, ck_w (by omega), e_lettersIn hs hw, so_bd, ck_w (by omega), show min (H.wordCounts w) 6 = H.wordCounts w by omega, show min (H.letterCounts w) 60 = H.letterCounts w by omega]
  refine ok_bd (P := fun T => T.version = w ∧ T.wordCount = (ct H w).wc ∧ T.length = (ct H w).len ∧ (∀ p, 0 ≤ p → p < (ct H w).len → T.letters p = (ct H w).letters p ∧ T.words p = (ct H w).words p) ∧ ∀ k, 0 ≤ k → k < (ct H w).wc → T.starts k = (ct H w).starts k) ?_ ?_
  · refine ok_lpI (fun z => (0 ≤ z.1 ∧ z.1 ≤ w) ∧ (0 ≤ z.2.1 ∧ z.2.1 ≤ w - z.1) ∧ Pre (ct H z.1) (ct H w) ∧ (z.2.2.version = w ∧ z.2.2.wordCount = (ct H w).wc ∧ z.2.2.length = (ct H w).len) ∧ (∀ p, (ct H z.1).len ≤ p → p < (ct H w).len → z.2.2.letters p = (ct H w).letters p ∧ z.2.2.words p = (ct H w).words p) ∧ ∀ k, (ct H z.1).wc ≤ k → k < (ct H w).wc → z.2.2.starts k = (ct H w).starts k) (fun z => z.1) ?_ n _ ?_ ?_
    · rintro ⟨u, i, T⟩ ⟨hu, hi, hpre, hT, hL, hS⟩
      dsimp only at hu hi hpre hT hL hS ⊢
      refine ⟨hu.1, ?_⟩
      unfold p_X5_takeVersion_b47
      dsimp only
      rw [ck_w (by omega), if_pos (by omega), ck_w (by omega)]
      refine ok_ite (fun c => ?_) (fun c => ?_)
      · have hp := h.2.2.2 u (by omega) (by omega)
        have hub := h.2.2.1 u hu.1 (by omega)
        have hpb := h.2.2.1 (H.parents u) hp.1 (by omega)
        have hcu := ct_wc h u hu.1 (by omega)
        have hcp := ct_wc h (H.parents u) hp.1 (by omega)
        have hctu := ct_s h (w := u) ⟨by omega, by omega⟩
        have hpre2 : Pre (ct H (H.parents u)) (ct H w) := Pre_up (hctu ▸ hpre)
        rw [e_wordsIn hs ⟨by omega, by omega⟩, so_bd, e_stepOf hs ⟨by omega, by omega⟩, so_bd, ck_w (by omega)]
        obtain ⟨r1, r2, r3, r4⟩ := hpre
        refine ok_ite (fun d => ?_) (fun d => ?_)
        · have hd := hp.2.2.2.2.1 d
          have eu : ct H u = ((ct H (H.parents u)).letters, (ct H (H.parents u)).words, up (ct H (H.parents u)).starts (ct H (H.parents u)).wc (ct H (H.parents u)).len, (ct H (H.parents u)).wc + 1, (ct H (H.parents u)).len) := by rw [hctu]; exact if_pos d
          rw [e_lettersIn hs ⟨by omega, by omega⟩, so_bd, e_putStart (by omega), so_bd]
          unfold p_X5_takeVersion_j109
          rw [e_parentOf hs ⟨by omega, by omega⟩, so_bd]
          refine ok_so ⟨⟨by dsimp only; omega, by dsimp only; omega, hpre2, hT, fun p q r => ?_, fun k q r => ?_⟩, by dsimp only; omega⟩
          · dsimp only at q ⊢
            exact hL p (by omega) r
          · dsimp only at q ⊢
            show up T.starts (H.wordCounts u - 1) (H.letterCounts u) k = _
            by_cases g : k = H.wordCounts u - 1
            · rw [g, up_s, r4 _ (by omega) (by omega), eu]
              show _ = up (ct H (H.parents u)).starts (ct H (H.parents u)).wc (ct H (H.parents u)).len (H.wordCounts u - 1)
              rw [show H.wordCounts u - 1 = (ct H (H.parents u)).wc by omega, up_s]
              omega
            · rw [up_n _ _ g]; exact hS k (by omega) r
        · have hd := hp.2.2.2.2.2 d
          have eu : ct H u = (up (ct H (H.parents u)).letters (ct H (H.parents u)).len (H.steps u), up (ct H (H.parents u)).words (ct H (H.parents u)).len ((ct H (H.parents u)).wc - 1), (ct H (H.parents u)).starts, (ct H (H.parents u)).wc, (ct H (H.parents u)).len + 1) := by rw [hctu]; exact if_neg d
          rw [e_lettersIn hs ⟨by omega, by omega⟩, so_bd, so_bd, e_putLetter (by omega) (by omega), so_bd]
          unfold p_X5_takeVersion_j109
          rw [e_parentOf hs ⟨by omega, by omega⟩, so_bd]
          refine ok_so ⟨⟨by dsimp only; omega, by dsimp only; omega, hpre2, hT, fun p q r => ?_, fun k q r => ?_⟩, by dsimp only; omega⟩
          · dsimp only at q ⊢
            show up T.letters (H.letterCounts u - 1) (H.steps u) p = _ ∧ up T.words (H.letterCounts u - 1) (H.wordCounts u - 1) p = _
            by_cases g : p = H.letterCounts u - 1
            · have r5 := r3 (H.letterCounts u - 1) (by omega) (by omega)
              rw [g, up_s, up_s, r5.1, r5.2, eu]
              show _ = up (ct H (H.parents u)).letters (ct H (H.parents u)).len (H.steps u) (H.letterCounts u - 1) ∧ _ = up (ct H (H.parents u)).words (ct H (H.parents u)).len ((ct H (H.parents u)).wc - 1) (H.letterCounts u - 1)
              rw [show H.letterCounts u - 1 = (ct H (H.parents u)).len by omega, up_s, up_s]
              omega
            · rw [up_n _ _ g, up_n _ _ g]; exact hL p (by omega) r
          · dsimp only at q ⊢
            exact hS k (by omega) r
      · have e : u = 0 := by omega
        subst e
        refine ok_so ⟨hT.1, hT.2.1, hT.2.2, fun p q r => hL p ?_ r, fun k q r => hS k ?_ r⟩
        · rw [ct_0]; exact q
        · rw [ct_0]; exact q
    · refine ⟨by dsimp only; omega, by dsimp only; omega, Pre_rf _, ⟨rfl, hcw.1.symm, hcw.2.symm⟩, fun p q r => absurd r (by have q : (ct H w).len ≤ p := q; omega), fun k q r => absurd r (by have q : (ct H w).wc ≤ k := q; omega)⟩
    · show w < n; omega
  · rintro T ⟨t1, t2, t3, t4, t5⟩
    obtain ⟨b1, b2, b3, b4, b5, b6⟩ := id hbo
    refine ok_bd (P := fun q => ∀ p, 0 ≤ p → p < (ct H w).len → q.1 p = p - (ct H w).starts ((ct H w).words p) ∧ q.2 p = wend (ct H w) ((ct H w).words p) - p) ?_ ?_
    · refine ok_lpI (fun z => (0 ≤ z.1 ∧ z.1 ≤ (ct H w).len) ∧ ∀ p, 0 ≤ p → p < z.1 → z.2.1 p = p - (ct H w).starts ((ct H w).words p) ∧ z.2.2 p = wend (ct H w) ((ct H w).words p) - p) (fun z => (ct H w).len - z.1) ?_ n _ ?_ ?_
      · rintro ⟨i, A, B⟩ ⟨hi, hA⟩
        dsimp only at hi hA ⊢
        refine ⟨by omega, ?_⟩
        unfold p_X5_takeVersion_b124
        dsimp only
        rw [ck_w (by omega), ck_w (by omega), t3]
        refine ok_ite (fun c => ?_) (fun c => ?_)
        · have q := b6 i hi.1 c
          have r := t4 i hi.1 c
          rw [ix_of (by omega), r.2, e_wordStart (by show 0 ≤ T.wordCount ∧ T.wordCount ≤ 6; omega) (by show 0 ≤ (ct H w).words i ∧ (ct H w).words i < T.wordCount; omega), so_bd, e_wordEnd (by show 0 ≤ T.wordCount ∧ T.wordCount ≤ 6; omega) (by show 0 ≤ (ct H w).words i ∧ (ct H w).words i < T.wordCount; omega), so_bd]
          refine ok_so ⟨⟨by dsimp only; omega, fun p a b => ?_⟩, by dsimp only; omega⟩
          dsimp only at b ⊢
          by_cases g : p = i
          · subst g
            rw [up_s, up_s, t5 _ q.2.2.1 q.2.2.2.1]
            refine ⟨rfl, ?_⟩
            unfold wend
            rw [t2]
            by_cases u : (ct H w).words p + 1 < (ct H w).wc
            · rw [if_pos u, if_pos u, t5 _ (by omega) u]
            · rw [if_neg u, if_neg u]
          · rw [up_n _ _ g, up_n _ _ g]; exact hA p a (by omega)
        · exact ok_so (fun p a b => hA p a (by omega))
      · exact ⟨by dsimp only; omega, fun p a b => absurd b (by dsimp only; omega)⟩
      · dsimp only; omega
    · rintro ⟨A, B⟩ hAB
      dsimp only at hAB ⊢
      refine ok_so ⟨t1, t2, ?_, t5⟩
      show (T.length, mk T.length T.letters, mk T.length T.words, mk T.length A, mk T.length B) = _
      rw [t3]
      unfold nb
      rw [mk_cg (fun p a b => (t4 p a b).1), mk_cg (fun p a b => (t4 p a b).2), mk_cg (fun p a b => (hAB p a b).1), mk_cg (fun p a b => (hAB p a b).2)]
