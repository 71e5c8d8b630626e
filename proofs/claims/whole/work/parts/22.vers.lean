/-- the versions on both sides -/
def HR (H : HisS) (V : MvS) (pr : Int) : Prop := HH H ∧ HV H V ∧ V.present = pr ∧ 0 ≤ pr ∧ pr < H.size
/-- what was there before is there -/
def Ext (H H' : HisS) : Prop := H.size ≤ H'.size ∧ ∀ i, 0 ≤ i → i < H.size → H'.parents i = H.parents i ∧ H'.steps i = H.steps i ∧ H'.wordCounts i = H.wordCounts i ∧ H'.letterCounts i = H.letterCounts i
theorem Ext_rf (H : HisS) : Ext H H := ⟨Int.le_refl _, fun _ _ _ => ⟨rfl, rfl, rfl, rfl⟩⟩
theorem Ext_tr {A B C : HisS} (h1 : Ext A B) (h2 : Ext B C) : Ext A C := by
  refine ⟨Int.le_trans h1.1 h2.1, fun i hi hl => ?_⟩
  have a := h1.2 i hi hl
  have b := h2.2 i hi (by have := h1.1; omega)
  exact ⟨b.1.trans a.1, b.2.1.trans a.2.1, b.2.2.1.trans a.2.2.1, b.2.2.2.trans a.2.2.2⟩
theorem Ext_gr (H : HisS) (p st : Int) : Ext H (gr H p st) := by
  refine ⟨?_, fun i hi hl => ?_⟩
  · show H.size ≤ H.size + 1; omega
  · show up H.parents H.size p i = H.parents i ∧ up H.steps H.size st i = H.steps i ∧ up H.wordCounts H.size _ i = H.wordCounts i ∧ up H.letterCounts H.size _ i = H.letterCounts i
    rw [up_n _ _ (by omega), up_n _ _ (by omega), up_n _ _ (by omega), up_n _ _ (by omega)]
    exact ⟨rfl, rfl, rfl, rfl⟩
theorem HR_gr {H : HisS} {V : MvS} {pr st : Int} (h : HR H V pr) (hs : H.size < 400) (hst : -1 ≤ st ∧ st ≤ 7) (hw : st = -1 → H.wordCounts pr < 6) (hl : st ≠ -1 → H.letterCounts pr < 60 ∧ 1 ≤ H.wordCounts pr) : HR (gr H pr st) (grV V st) H.size := by
  obtain ⟨h1, h2, h3, h4, h5⟩ := h
  refine ⟨HH_gr h1 hs ⟨h4, h5⟩ hst hw hl, HV_gr h2 h1 ⟨h4, h5⟩ h3, ?_, ?_, ?_⟩
  · show V.versions = H.size; exact h2.1
  · have := h1.1; omega
  · show H.size < H.size + 1; omega
theorem s_begin {H : HisS} {V : MvS} {pr : Int} (h : HR H V pr) : ∃ r H' V' pr', p_X6_begin pr H = some (r, pr', H') ∧ p_X7_begin V = some (r, V') ∧ HR H' V' pr' ∧ Ext H H' := by
  obtain ⟨h1, h2, h3, h4, h5⟩ := id h
  have hs := h1.1
  have hb := h1.2.2.1 pr h4 h5
  have hv := h2.2.2.1 pr h4 h5
  have hvv := h2.1
  have e0 : p_X2_wordsIn H pr = some (H.wordCounts pr) := e_wordsIn hs ⟨h4, h5⟩
  unfold p_X6_begin p_X7_begin
  by_cases c : H.wordCounts pr < 6
  · by_cases d : H.size = 400
    · exact ⟨-4, H, V, pr, by simp (disch := omega) only [e0, e_roomFor, ck_w, ix_of, so_bd, ite_true, ite_false, if_pos, if_neg], by simp (disch := omega) only [h3, hv.1, hvv, ck_w, ix_of, so_bd, ite_true, ite_false, if_pos, if_neg], h, Ext_rf H⟩
    · exact ⟨H.size, gr H pr (-1), grV V (-1), H.size, by simp (disch := omega) only [e0, e_roomFor, e_grow, ck_w, ix_of, so_bd, ite_true, ite_false, if_pos, if_neg], by simp (disch := omega) only [e_make, h3, hv.1, hvv, ck_w, ix_of, so_bd, ite_true, ite_false, if_pos, if_neg], HR_gr h (by omega) (by omega) (fun _ => c) (fun q => absurd rfl q), Ext_gr H pr (-1)⟩
  · exact ⟨-4, H, V, pr, by simp (disch := omega) only [e0, ck_w, so_bd, ite_true, ite_false, if_pos, if_neg], by simp (disch := omega) only [h3, hv.1, hvv, ck_w, ix_of, so_bd, ite_true, ite_false, if_pos, if_neg], h, Ext_rf H⟩
theorem e_isLetter6 {v : Int} (hv : InR v) : p_X6_isLetter v = some (if 0 ≤ v ∧ v ≤ 7 then 1 else 0) := by
  unfold p_X6_isLetter
  rw [ck_of hv]
  by_cases h : v < 0
  · rw [if_pos h, if_neg (by omega)]
  · rw [if_neg h]
    by_cases h2 : v < 8
    · rw [if_pos h2, if_pos (by omega)]
    · rw [if_neg h2, if_neg (by omega)]
theorem s_append {H : HisS} {V : MvS} {pr v : Int} (h : HR H V pr) (hv0 : InR v) : ∃ r H' V' pr', p_X6_append pr H v = some (r, pr', H') ∧ p_X7_append V v = some (r, V') ∧ HR H' V' pr' ∧ Ext H H' := by
  obtain ⟨h1, h2, h3, h4, h5⟩ := id h
  have hs := h1.1
  have hb := h1.2.2.1 pr h4 h5
  have hv := h2.2.2.1 pr h4 h5
  have hvv := h2.1
  have e0 : p_X2_wordsIn H pr = some (H.wordCounts pr) := e_wordsIn hs ⟨h4, h5⟩
  have e1 : p_X2_lettersIn H pr = some (H.letterCounts pr) := e_lettersIn hs ⟨h4, h5⟩
  have e2 := e_isLetter6 hv0
  have e3 := e_in (v := v) (a := 0) (b := 7) hv0 (by decide) (by decide)
  unfold p_X6_append p_X7_append
  by_cases a : 0 ≤ v ∧ v ≤ 7
  · by_cases b : H.wordCounts pr = 0
    · exact ⟨-5, H, V, pr, by simp (disch := omega) only [e0, e2, ck_w, ix_of, so_bd, ite_true, ite_false, if_pos, if_neg], by simp (disch := omega) only [e3, h3, hv.1, hvv, ck_w, ix_of, so_bd, ite_true, ite_false, if_pos, if_neg], h, Ext_rf H⟩
    · by_cases c : H.letterCounts pr < 60
      · by_cases d : H.size = 400
        · exact ⟨-4, H, V, pr, by simp (disch := omega) only [e0, e1, e2, e_roomFor, ck_w, ix_of, so_bd, ite_true, ite_false, if_pos, if_neg], by simp (disch := omega) only [e3, h3, hv.1, hv.2, hvv, ck_w, ix_of, so_bd, ite_true, ite_false, if_pos, if_neg], h, Ext_rf H⟩
        · exact ⟨H.size, gr H pr v, grV V v, H.size, by simp (disch := omega) only [e0, e1, e2, e_roomFor, e_grow, ck_w, ix_of, so_bd, ite_true, ite_false, if_pos, if_neg], by simp (disch := omega) only [e3, e_make, h3, hv.1, hv.2, hvv, ck_w, ix_of, so_bd, ite_true, ite_false, if_pos, if_neg], HR_gr h (by omega) (by omega) (fun q => by omega) (fun _ => ⟨c, by omega⟩), Ext_gr H pr v⟩
      · exact ⟨-4, H, V, pr, by simp (disch := omega) only [e0, e1, e2, ck_w, ix_of, so_bd, ite_true, ite_false, if_pos, if_neg], by simp (disch := omega) only [e3, h3, hv.1, hv.2, hvv, ck_w, ix_of, so_bd, ite_true, ite_false, if_pos, if_neg], h, Ext_rf H⟩
  · exact ⟨-2, H, V, pr, by simp (disch := omega) only [e2, ck_w, ix_of, so_bd, ite_true, ite_false, if_pos, if_neg], by simp (disch := omega) only [e3, ck_w, ix_of, so_bd, ite_true, ite_false, if_pos, if_neg], h, Ext_rf H⟩
theorem HV_pr {H : HisS} {V : MvS} (h : HV H V) (q : Int) : HV H (V.parent, V.added, V.wordMany, V.letterMany, V.versions, q) := h
theorem s_go {H : HisS} {V : MvS} {pr v : Int} (h : HR H V pr) (hv : InR v) : ∃ r V' pr', p_X6_go pr H v = some (r, pr') ∧ p_X7_go V v = some (r, V') ∧ HR H V' pr' := by
  obtain ⟨h1, h2, h3, h4, h5⟩ := id h
  have hs := h1.1
  have hvv := h2.1
  have e1 := e_has hv hs
  have e2 := e_isVersion (V := V) hv (by rw [h2.1]; exact hs)
  unfold p_X6_go p_X7_go
  by_cases c : 0 ≤ v ∧ v < H.size
  · exact ⟨pr, (V.parent, V.added, V.wordMany, V.letterMany, V.versions, v), v, by simp (disch := omega) only [e1, ck_w, so_bd, ite_true, ite_false, if_pos, if_neg], by simp (disch := omega) only [e2, h3, ck_w, so_bd, ite_true, ite_false, if_pos, if_neg], h1, HV_pr h2 v, rfl, c.1, c.2⟩
  · exact ⟨-1, V, pr, by simp (disch := omega) only [e1, ck_w, so_bd, ite_true, ite_false, if_pos, if_neg], by simp (disch := omega) only [e2, ck_w, so_bd, ite_true, ite_false, if_pos, if_neg], h⟩
theorem s_back {n : Nat} (hn : 1000 ≤ n) {H : HisS} {V : MvS} {pr v : Int} (h : HR H V pr) (hv : InR v) : ∃ r V' pr', p_X6_back n pr H v = some (r, pr') ∧ p_X7_back n V v = some (r, V') ∧ HR H V' pr' := by
  obtain ⟨h1, h2, h3, h4, h5⟩ := id h
  have hs := h1.1
  have hvv := h2.1
  have e3 := e_in (v := v) (a := 0) (b := 400) hv (by decide) (by decide)
  unfold p_X6_back p_X7_back
  by_cases a : v < 0
  · exact ⟨-2, V, pr, by simp (disch := omega) only [ck_w, so_bd, ite_true, ite_false, if_pos, if_neg], by simp (disch := omega) only [e3, ck_w, so_bd, ite_true, ite_false, if_pos, if_neg], h⟩
  · by_cases b : 400 < v
    · exact ⟨-2, V, pr, by simp (disch := omega) only [ck_w, so_bd, ite_true, ite_false, if_pos, if_neg], by simp (disch := omega) only [e3, ck_w, so_bd, ite_true, ite_false, if_pos, if_neg], h⟩
    · have hl : ∃ r r', lp (p_X2_ancestorOf_b5 n H v) n (pr, 0) = some r ∧ lp (p_X7_back_b21 n V v) n (pr, 0) = some r' ∧ (r = r' ∧ (r = -6 ∨ (0 ≤ r ∧ r < H.size))) := by
        refine lp_sim (b1 := p_X2_ancestorOf_b5 n H v) (b2 := p_X7_back_b21 n V v) (fun z w => z = w ∧ 0 ≤ z.2 ∧ z.2 ≤ v ∧ (z.1 = -6 ∨ (0 ≤ z.1 ∧ z.1 < H.size))) (fun r r' => r = r' ∧ (r = -6 ∨ (0 ≤ r ∧ r < H.size))) (fun z => v - z.2) ?_ n n (pr, 0) (pr, 0) ⟨rfl, by show (0 : Int) ≤ 0; omega, by show 0 ≤ v; omega, Or.inr ⟨h4, h5⟩⟩ (by show v - 0 < n; omega) (by show v - 0 < n; omega) (by omega) (by omega)
        rintro ⟨at_, i⟩ w ⟨rfl, hi, hi2, hz⟩
        dsimp only at hi hi2 hz
        unfold p_X2_ancestorOf_b5 p_X7_back_b21
        dsimp only
        by_cases c : i < v
        · by_cases d : at_ = -6
          · exact Or.inr ⟨at_, at_, by simp (disch := omega) only [ck_w, ite_true, ite_false, if_pos, if_neg], by simp (disch := omega) only [ck_w, ite_true, ite_false, if_pos, if_neg], rfl, hz⟩
          · by_cases e : at_ = 0
            · subst e
              exact Or.inl ⟨(-6, i + 1), (-6, i + 1), by simp (disch := omega) only [ck_w, ite_true, ite_false, if_pos, if_neg, e_parentOf0 hs, so_bd], by simp (disch := omega) only [ck_w, ite_true, ite_false, if_pos, if_neg, ix_of, h2.2.1], ⟨rfl, by show 0 ≤ i + 1; omega, by show i + 1 ≤ v; omega, Or.inl rfl⟩, by show v - (i + 1) < v - i; omega, by show 0 < v - i; omega⟩
            · have hp := h1.2.2.2 at_ (by omega) (by omega)
              have ep := (h2.2.2.2 at_ (by omega) (by omega)).1
              exact Or.inl ⟨(H.parents at_, i + 1), (H.parents at_, i + 1), by simp (disch := omega) only [ck_w, ite_true, ite_false, if_pos, if_neg, e_parentOf, so_bd], by simp (disch := omega) only [ck_w, ite_true, ite_false, if_pos, if_neg, ix_of, ep], ⟨rfl, by show 0 ≤ i + 1; omega, by show i + 1 ≤ v; omega, Or.inr ⟨by show 0 ≤ H.parents at_; omega, by show H.parents at_ < H.size; omega⟩⟩, by show v - (i + 1) < v - i; omega, by show 0 < v - i; omega⟩
        · exact Or.inr ⟨at_, at_, by simp (disch := omega) only [ck_w, ite_true, ite_false, if_pos, if_neg], by simp (disch := omega) only [ck_w, ite_true, ite_false, if_pos, if_neg], rfl, hz⟩
      obtain ⟨r, r', e1, e2, rfl, hq⟩ := hl
      have e4 : p_X2_ancestorOf n H pr v = some r := by unfold p_X2_ancestorOf; rw [e1]; rfl
      by_cases c : r = -6
      · subst c
        exact ⟨-6, V, pr, by simp (disch := omega) only [ck_w, so_bd, ite_true, ite_false, if_pos, if_neg, e4], by simp (disch := omega) only [e3, h3, e2, ck_w, so_bd, ite_true, ite_false, if_pos, if_neg], h⟩
      · exact ⟨r, (V.parent, V.added, V.wordMany, V.letterMany, V.versions, r), r, by simp (disch := omega) only [ck_w, so_bd, ite_true, ite_false, if_pos, if_neg, e4], by simp (disch := omega) only [e3, h3, e2, ck_w, so_bd, ite_true, ite_false, if_pos, if_neg], h1, HV_pr h2 r, rfl, by omega, by omega⟩
theorem s_children {n : Nat} (hn : 1000 ≤ n) {H : HisS} {V : MvS} {v : Int} (h1 : HH H) (h2 : HV H V) (hv : InR v) : ∃ r, p_X2_childrenOf n H v = some r ∧ p_X7_children n V v = some r := by
  have hs := h1.1
  have hvv := h2.1
  have hl : ∃ r r', lp (p_X2_childrenOf_b4 n H v) n (0, 1) = some r ∧ lp (p_X7_children_b4 n V v) n (0, 1) = some r' ∧ r = r' := by
    refine lp_sim (b1 := p_X2_childrenOf_b4 n H v) (b2 := p_X7_children_b4 n V v) (fun z w => z = w ∧ 1 ≤ z.2 ∧ z.2 ≤ H.size) (fun r r' => r = r') (fun z => H.size - z.2) ?_ n n (0, 1) (0, 1) ⟨rfl, by show (1 : Int) ≤ 1; omega, by show 1 ≤ H.size; omega⟩ (by show H.size - 1 < n; omega) (by show H.size - 1 < n; omega) (by omega) (by omega)
    rintro ⟨k, i⟩ w ⟨rfl, hi, hi2⟩
    dsimp only at hi hi2
    unfold p_X2_childrenOf_b4 p_X7_children_b4
    dsimp only
    by_cases c : i < H.size
    · have hp := h1.2.2.2 i hi c
      have ep := (h2.2.2.2 i hi c).1
      by_cases d : H.parents i = v
      · exact Or.inl ⟨(k + 1, i + 1), (k + 1, i + 1), by simp (disch := omega) only [ck_w, ite_true, ite_false, if_pos, if_neg, ix_of], by simp (disch := omega) only [ck_w, ite_true, ite_false, if_pos, if_neg, ix_of, ep, hvv], ⟨rfl, by show 1 ≤ i + 1; omega, by show i + 1 ≤ H.size; omega⟩, by show H.size - (i + 1) < H.size - i; omega, by show 0 < H.size - i; omega⟩
      · exact Or.inl ⟨(k, i + 1), (k, i + 1), by simp (disch := omega) only [ck_w, ite_true, ite_false, if_pos, if_neg, ix_of], by simp (disch := omega) only [ck_w, ite_true, ite_false, if_pos, if_neg, ix_of, ep, hvv, Int.add_zero], ⟨rfl, by show 1 ≤ i + 1; omega, by show i + 1 ≤ H.size; omega⟩, by show H.size - (i + 1) < H.size - i; omega, by show 0 < H.size - i; omega⟩
    · exact Or.inr ⟨k, k, by simp (disch := omega) only [ck_w, ite_true, ite_false, if_pos, if_neg], by simp (disch := omega) only [ck_w, ite_true, ite_false, if_pos, if_neg, hvv], rfl⟩
  obtain ⟨r, r', e1, e2, rfl⟩ := hl
  exact ⟨r, by unfold p_X2_childrenOf; rw [e1]; rfl, by unfold p_X7_children; rw [e2]; rfl⟩
theorem s_depth {n : Nat} (hn : 1000 ≤ n) {H : HisS} {V : MvS} {v : Int} (h1 : HH H) (h2 : HV H V) (hv : 0 ≤ v ∧ v < H.size) : p_X7_depth n V v = some (H.wordCounts v + H.letterCounts v) := by
  have hs := h1.1
  unfold p_X7_depth
  have : Ok (lp (p_X7_depth_b4 n V) n (0, v)) (fun r => r = H.wordCounts v + H.letterCounts v) := by
    refine ok_lpI (fun z => 0 ≤ z.2 ∧ z.2 < H.size ∧ z.1 + (H.wordCounts z.2 + H.letterCounts z.2) = H.wordCounts v + H.letterCounts v) (fun z => z.2) ?_ n (0, v) ⟨hv.1, hv.2, by dsimp only; omega⟩ (by show v < n; omega)
    rintro ⟨d, u⟩ ⟨a, b, c⟩
    dsimp only at a b c ⊢
    refine ⟨a, ?_⟩
    unfold p_X7_depth_b4
    dsimp only
    rw [ck_w (by omega)]
    refine ok_ite (fun q => ?_) (fun q => ?_)
    · rw [ix_of (by omega), (h2.2.2.2 u (by omega) b).1]
      have hp := h1.2.2.2 u (by omega) b
      refine ok_so ⟨⟨hp.1, by show H.parents u < H.size; omega, ?_⟩, by show H.parents u < u; omega⟩
      dsimp only
      by_cases e : H.steps u = -1
      · have := hp.2.2.2.2.1 e; omega
      · have := hp.2.2.2.2.2 e; omega
    · refine ok_so ?_
      have e : u = 0 := by omega
      subst e
      show d = _
      rw [h1.2.1.1, h1.2.1.2] at c
      omega
  rw [ok_eq this, so_bd]
theorem s_latest {n : Nat} (hn : 1000 ≤ n) {H : HisS} {V : MvS} {a b : Int} (h1 : HH H) (h2 : HV H V) (ha : 0 ≤ a ∧ a < H.size) (hb : 0 ≤ b ∧ b < H.size) : ∃ r, p_X2_latestCommon n H a b = some r ∧ lp (p_X7_meet_b23 n V) n (a, b) = some r := by
  have hs := h1.1
  have hl : ∃ r r', lp (p_X2_latestCommon_b8 n H) n (a, b, 0) = some r ∧ lp (p_X7_meet_b23 n V) n (a, b) = some r' ∧ r = r' := by
    refine lp_sim (b1 := p_X2_latestCommon_b8 n H) (b2 := p_X7_meet_b23 n V) (fun z w => w = (z.1, z.2.1) ∧ (0 ≤ z.1 ∧ z.1 < H.size) ∧ (0 ≤ z.2.1 ∧ z.2.1 < H.size) ∧ 0 ≤ z.2.2 ∧ z.1 + z.2.1 + z.2.2 < 800) (fun r r' => r = r') (fun z => 800 - z.2.2) ?_ n n (a, b, 0) (a, b) ⟨rfl, ha, hb, by show (0 : Int) ≤ 0; omega, by show a + b + 0 < 800; omega⟩ (by show (800 : Int) - 0 < n; omega) (by show (800 : Int) - 0 < n; omega) (by omega) (by omega)
    rintro ⟨x, y, i⟩ w ⟨rfl, hx, hy, hi, hm⟩
    dsimp only at hx hy hi hm
    unfold p_X2_latestCommon_b8 p_X7_meet_b23
    dsimp only
    by_cases c : x = y
    · exact Or.inr ⟨x, x, by simp (disch := omega) only [ck_w, ite_true, ite_false, if_pos, if_neg], by simp (disch := omega) only [ck_w, ite_true, ite_false, if_pos, if_neg], rfl⟩
    · by_cases d : y < x
      · have hp := h1.2.2.2 x (by omega) hx.2
        have ep := (h2.2.2.2 x (by omega) hx.2).1
        exact Or.inl ⟨(H.parents x, y, i + 1), (H.parents x, y), by simp (disch := omega) only [ck_w, ite_true, ite_false, if_pos, if_neg, e_parentOf, so_bd], by simp (disch := omega) only [ck_w, ite_true, ite_false, if_pos, if_neg, ix_of, ep], ⟨rfl, by show 0 ≤ H.parents x ∧ H.parents x < H.size; omega, hy, by show 0 ≤ i + 1; omega, by show H.parents x + y + (i + 1) < 800; omega⟩, by show 800 - (i + 1) < 800 - i; omega, by show 0 < 800 - i; omega⟩
      · have hp := h1.2.2.2 y (by omega) hy.2
        have ep := (h2.2.2.2 y (by omega) hy.2).1
        exact Or.inl ⟨(x, H.parents y, i + 1), (x, H.parents y), by simp (disch := omega) only [ck_w, ite_true, ite_false, if_pos, if_neg, e_parentOf, so_bd], by simp (disch := omega) only [ck_w, ite_true, ite_false, if_pos, if_neg, ix_of, ep], ⟨rfl, hx, by show 0 ≤ H.parents y ∧ H.parents y < H.size; omega, by show 0 ≤ i + 1; omega, by show x + H.parents y + (i + 1) < 800; omega⟩, by show 800 - (i + 1) < 800 - i; omega, by show 0 < 800 - i; omega⟩
  obtain ⟨r, r', e1, e2, rfl⟩ := hl
  exact ⟨r, by unfold p_X2_latestCommon; rw [e1]; rfl, e2⟩
theorem s_meet {n : Nat} (hn : 1000 ≤ n) {H : HisS} {V : MvS} {a b : Int} (h1 : HH H) (h2 : HV H V) (ha : InR a) (hb : InR b) : ∃ r, p_X6_meet n H a b = some r ∧ p_X7_meet n V a b = some r := by
  have hs := h1.1
  have hvv := h2.1
  have e1 := e_has ha hs
  have e2 := e_isVersion (V := V) ha (by rw [h2.1]; exact hs)
  have e3 := e_has hb hs
  have e4 := e_isVersion (V := V) hb (by rw [h2.1]; exact hs)
  unfold p_X6_meet p_X7_meet
  by_cases c : 0 ≤ a ∧ a < H.size
  · by_cases d : 0 ≤ b ∧ b < H.size
    · obtain ⟨r, e5, e6⟩ := s_latest hn h1 h2 c d
      exact ⟨r, by simp (disch := omega) only [e1, e3, e5, ck_w, so_bd, ite_true, ite_false, if_pos, if_neg], by simp (disch := omega) only [e2, e4, e6, ck_w, so_bd, ite_true, ite_false, if_pos, if_neg]⟩
    · exact ⟨-1, by simp (disch := omega) only [e1, e3, ck_w, so_bd, ite_true, ite_false, if_pos, if_neg], by simp (disch := omega) only [e2, e4, ck_w, so_bd, ite_true, ite_false, if_pos, if_neg]⟩
  · exact ⟨-1, by simp (disch := omega) only [e1, ck_w, so_bd, ite_true, ite_false, if_pos, if_neg], by simp (disch := omega) only [e2, ck_w, so_bd, ite_true, ite_false, if_pos, if_neg]⟩
