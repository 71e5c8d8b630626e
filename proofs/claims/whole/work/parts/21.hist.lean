theorem ck_w {α : Type} {x : Int} {k : Option α} (h : -2147483648 ≤ x ∧ x < 2147483648) : ck x k = k := if_pos h
theorem so_bd {α β : Type} (r : α) (f : α → Option β) : (some r).bind f = f r := rfl
/-- two loops side by side -/
theorem lp_sim {σ τ ρ ρ' : Type} {b1 : σ → Option (σ ⊕ ρ)} {b2 : τ → Option (τ ⊕ ρ')} (R : σ → τ → Prop) (Q : ρ → ρ' → Prop) (μ : σ → Int)
    (st : ∀ z w, R z w → (∃ z' w', b1 z = some (.inl z') ∧ b2 w = some (.inl w') ∧ R z' w' ∧ μ z' < μ z ∧ 0 < μ z) ∨ (∃ r r', b1 z = some (.inr r) ∧ b2 w = some (.inr r') ∧ Q r r')) :
    ∀ (n m : Nat) (z : σ) (w : τ), R z w → μ z < n → μ z < m → 0 < n → 0 < m → ∃ r r', lp b1 n z = some r ∧ lp b2 m w = some r' ∧ Q r r' := by
  intro n
  induction n with
  | zero => intro m z w _ _ _ h; exact absurd h (by omega)
  | succ n ih =>
    intro m z w hR h1 h2 _ hm
    cases m with
    | zero => exact absurd hm (by omega)
    | succ m =>
      rcases st z w hR with ⟨z', w', e1, e2, hR', hl, hp⟩ | ⟨r, r', e1, e2, hq⟩
      · obtain ⟨r, r', f1, f2, hq⟩ := ih m z' w' hR' (by omega) (by omega) (by omega) (by omega)
        exact ⟨r, r', by unfold lp; rw [e1]; exact f1, by unfold lp; rw [e2]; exact f2, hq⟩
      · exact ⟨r, r', by unfold lp; rw [e1]; rfl, by unfold lp; rw [e2]; rfl, hq⟩
/-! the versions -/
def HH (H : HisS) : Prop := (1 ≤ H.size ∧ H.size ≤ 400) ∧ (H.wordCounts 0 = 0 ∧ H.letterCounts 0 = 0) ∧ (∀ i, 0 ≤ i → i < H.size → 0 ≤ H.wordCounts i ∧ H.wordCounts i ≤ 6 ∧ 0 ≤ H.letterCounts i ∧ H.letterCounts i ≤ 60) ∧
  (∀ i, 1 ≤ i → i < H.size → 0 ≤ H.parents i ∧ H.parents i < i ∧ -1 ≤ H.steps i ∧ H.steps i ≤ 7 ∧ (H.steps i = -1 → H.wordCounts i = H.wordCounts (H.parents i) + 1 ∧ H.letterCounts i = H.letterCounts (H.parents i)) ∧ (H.steps i ≠ -1 → H.wordCounts i = H.wordCounts (H.parents i) ∧ 1 ≤ H.wordCounts i ∧ H.letterCounts i = H.letterCounts (H.parents i) + 1))
def HV (H : HisS) (V : MvS) : Prop := V.versions = H.size ∧ V.parent 0 = -6 ∧ (∀ i, 0 ≤ i → i < H.size → V.wordMany i = H.wordCounts i ∧ V.letterMany i = H.letterCounts i) ∧ (∀ i, 1 ≤ i → i < H.size → V.parent i = H.parents i ∧ V.added i = H.steps i)
theorem e_has {H : HisS} {v : Int} (hv : InR v) (hs : 1 ≤ H.size ∧ H.size ≤ 400) : p_X2_has H v = some (if 0 ≤ v ∧ v < H.size then 1 else 0) := by
  unfold p_X2_has
  rw [ck_of hv]
  by_cases h : v < 0
  · rw [if_pos h, if_neg (by omega)]
  · rw [if_neg h, ck_w (by omega)]
    by_cases h2 : v < H.size
    · rw [if_pos h2, if_pos (by omega)]
    · rw [if_neg h2, if_neg (by omega)]
theorem e_has1 {H : HisS} {v : Int} (hs : 1 ≤ H.size ∧ H.size ≤ 400) (h : 0 ≤ v ∧ v < H.size) : p_X2_has H v = some 1 := by
  rw [e_has (by omega) hs, if_pos h]
theorem e_wordsIn {H : HisS} {v : Int} (hs : 1 ≤ H.size ∧ H.size ≤ 400) (h : 0 ≤ v ∧ v < H.size) : p_X2_wordsIn H v = some (H.wordCounts v) := by
  unfold p_X2_wordsIn
  rw [e_has1 hs h, so_bd, ck_w (by omega), if_neg (by omega), ix_of (by omega)]
theorem e_lettersIn {H : HisS} {v : Int} (hs : 1 ≤ H.size ∧ H.size ≤ 400) (h : 0 ≤ v ∧ v < H.size) : p_X2_lettersIn H v = some (H.letterCounts v) := by
  unfold p_X2_lettersIn
  rw [e_has1 hs h, so_bd, ck_w (by omega), if_neg (by omega), ix_of (by omega)]
theorem e_stepOf {H : HisS} {v : Int} (hs : 1 ≤ H.size ∧ H.size ≤ 400) (h : 0 ≤ v ∧ v < H.size) : p_X2_stepOf H v = some (H.steps v) := by
  unfold p_X2_stepOf
  rw [e_has1 hs h, so_bd, ck_w (by omega), if_neg (by omega), ix_of (by omega)]
theorem e_parentOf {H : HisS} {v : Int} (hs : 1 ≤ H.size ∧ H.size ≤ 400) (h : 0 < v ∧ v < H.size) : p_X2_parentOf H v = some (H.parents v) := by
  unfold p_X2_parentOf
  rw [e_has1 hs (by omega), so_bd, ck_w (by omega), if_neg (by omega), ck_w (by omega), if_pos h.1, ix_of (by omega)]
theorem e_parentOf0 {H : HisS} (hs : 1 ≤ H.size ∧ H.size ≤ 400) : p_X2_parentOf H 0 = some (-6) := by
  unfold p_X2_parentOf
  rw [e_has1 hs (by omega), so_bd, ck_w (by omega), if_neg (by omega), ck_w (by omega), if_neg (by omega)]
theorem e_roomFor {H : HisS} {k : Int} (hk : 0 ≤ k ∧ k ≤ 1000) (hs : 1 ≤ H.size ∧ H.size ≤ 400) : p_X2_hasRoomFor H k = some (if k ≤ 400 - H.size then 1 else 0) := by
  unfold p_X2_hasRoomFor
  rw [ck_w (by omega), ck_w (by omega)]
  by_cases h : 400 - H.size < k
  · rw [if_pos h, if_neg (by omega)]
  · rw [if_neg h, if_pos (by omega)]
/-- the history with one version more -/
def gr (H : HisS) (p st : Int) : HisS := (up H.parents H.size p, up H.steps H.size st, up H.wordCounts H.size (H.wordCounts p + (if st = -1 then 1 else 0)), up H.letterCounts H.size (H.letterCounts p + (if st = -1 then 0 else 1)), H.size + 1)
theorem e_grow {H : HisS} {p st : Int} (hs : 1 ≤ H.size ∧ H.size < 400) (hp : 0 ≤ p ∧ p < H.size) (hst : -1 ≤ st ∧ st ≤ 7) : p_X2_grow H p st = some (H.size, gr H p st) := by
  unfold p_X2_grow
  rw [e_has1 (by omega) hp, so_bd, ck_w (by omega), if_neg (by omega), e_roomFor (by omega) (by omega), so_bd, if_pos (by omega), ck_w (by omega), if_neg (by omega), ck_w (by omega)]
  have hp2 : up H.wordCounts H.size (H.wordCounts p + (if st = -1 then 1 else 0)) = up H.wordCounts H.size (H.wordCounts p + (if st = -1 then 1 else 0)) := rfl
  by_cases h : st = -1
  · rw [if_pos h]
    unfold p_X2_grow_j28
    rw [ix_of (by omega), ix_of (by omega), ck_w (by omega), if_neg (by omega)]
    unfold p_X2_grow_j72
    rw [ix_of (by omega), ix_of (by omega), ck_w (by omega), if_neg (by omega)]
    unfold p_X2_grow_j97
    rw [ix_of (by show 0 ≤ H.size ∧ H.size < 400; omega)]
    unfold gr
    rw [if_pos h, if_pos h]
    show some (H.size + 1 - 1, _) = _
    rw [show H.size + 1 - 1 = H.size by omega]
  · rw [if_neg h]
    unfold p_X2_grow_j28
    rw [ix_of (by omega), ix_of (by omega), ck_w (by omega), if_pos rfl]
    unfold p_X2_grow_j72
    rw [ix_of (by omega), ix_of (by omega), ck_w (by omega), if_pos rfl]
    unfold p_X2_grow_j97
    rw [ix_of (by show 0 ≤ H.size ∧ H.size < 400; omega)]
    unfold gr
    rw [if_neg h, if_neg h]
    show some (H.size + 1 - 1, _) = _
    rw [show H.size + 1 - 1 = H.size by omega]
def grV (V : MvS) (st : Int) : MvS := (up V.parent V.versions V.present, up V.added V.versions st, up V.wordMany V.versions (V.wordMany V.present + (if st = -1 then 1 else 0)), up V.letterMany V.versions (V.letterMany V.present + (if st = -1 then 0 else 1)), V.versions + 1, V.versions)
theorem e_make {V : MvS} {st : Int} (hs : 1 ≤ V.versions ∧ V.versions < 400) (hp : 0 ≤ V.present ∧ V.present < V.versions) (hst : -1 ≤ st ∧ st ≤ 7) : p_X7_make V st = some (V.versions, grV V st) := by
  unfold p_X7_make
  rw [ix_of (by omega), ix_of (by omega), ck_w (by omega)]
  by_cases h : st = -1
  · rw [if_pos h]
    unfold p_X7_make_j46
    rw [ix_of (by omega), ix_of (by show 0 ≤ V.present ∧ V.present < 400; omega), ck_w (by omega), if_pos h]
    unfold p_X7_make_j72
    rw [ix_of (by omega)]
    unfold grV
    rw [if_pos h, if_pos h]
  · rw [if_neg h]
    unfold p_X7_make_j46
    rw [ix_of (by omega), ix_of (by show 0 ≤ V.present ∧ V.present < 400; omega), ck_w (by omega), if_neg h]
    unfold p_X7_make_j72
    rw [ix_of (by omega)]
    unfold grV
    rw [if_neg h, if_neg h]
theorem e_in {v a b : Int} (hv : InR v) (ha : InR a) (hb : InR b) : p_X7_in v a b = some (if a ≤ v ∧ v ≤ b then 1 else 0) := by
  unfold p_X7_in
  rw [ck_of hv, ck_of ha]
  by_cases h : v < a
  · rw [if_pos h, if_neg (by omega)]
  · rw [if_neg h, ck_of hb]
    by_cases h2 : b < v
    · rw [if_pos h2, if_neg (by omega)]
    · rw [if_neg h2, if_pos (by omega)]
theorem e_isVersion {V : MvS} {v : Int} (hv : InR v) (hs : 1 ≤ V.versions ∧ V.versions ≤ 400) : p_X7_isVersion V v = some (if 0 ≤ v ∧ v < V.versions then 1 else 0) := by
  unfold p_X7_isVersion
  rw [e_in hv (by decide) (by omega), so_bd]
  by_cases h : 0 ≤ v ∧ v < V.versions
  · rw [if_pos h, if_pos (by omega)]; rfl
  · rw [if_neg h, if_neg (by omega)]; rfl
theorem HH_gr {H : HisS} {p st : Int} (h : HH H) (hs : H.size < 400) (hp : 0 ≤ p ∧ p < H.size) (hst : -1 ≤ st ∧ st ≤ 7) (hw : st = -1 → H.wordCounts p < 6) (hl : st ≠ -1 → H.letterCounts p < 60 ∧ 1 ≤ H.wordCounts p) : HH (gr H p st) := by
  obtain ⟨h1, h2, h3, h4⟩ := h
  have hb := h3 p hp.1 hp.2
  refine ⟨⟨?_, ?_⟩, ⟨?_, ?_⟩, ?_, ?_⟩
  · show 1 ≤ H.size + 1; omega
  · show H.size + 1 ≤ 400; omega
  · show up H.wordCounts H.size _ 0 = 0
    rw [up_n _ _ (by omega)]; exact h2.1
  · show up H.letterCounts H.size _ 0 = 0
    rw [up_n _ _ (by omega)]; exact h2.2
  · intro i hi hi2
    have hi3 : i < H.size + 1 := hi2
    show 0 ≤ up H.wordCounts H.size _ i ∧ up H.wordCounts H.size _ i ≤ 6 ∧ 0 ≤ up H.letterCounts H.size _ i ∧ up H.letterCounts H.size _ i ≤ 60
    by_cases e : i = H.size
    · subst e
      rw [up_s, up_s]
      by_cases c : st = -1
      · rw [if_pos c, if_pos c]; have := hw c; omega
      · rw [if_neg c, if_neg c]; have := hl c; omega
    · rw [up_n _ _ e, up_n _ _ e]; exact h3 i hi (by omega)
  · intro i hi hi2
    have hi3 : i < H.size + 1 := hi2
    show 0 ≤ up H.parents H.size p i ∧ up H.parents H.size p i < i ∧ -1 ≤ up H.steps H.size st i ∧ up H.steps H.size st i ≤ 7 ∧ (up H.steps H.size st i = -1 → up H.wordCounts H.size _ i = up H.wordCounts H.size _ (up H.parents H.size p i) + 1 ∧ up H.letterCounts H.size _ i = up H.letterCounts H.size _ (up H.parents H.size p i)) ∧ (up H.steps H.size st i ≠ -1 → up H.wordCounts H.size _ i = up H.wordCounts H.size _ (up H.parents H.size p i) ∧ 1 ≤ up H.wordCounts H.size _ i ∧ up H.letterCounts H.size _ i = up H.letterCounts H.size _ (up H.parents H.size p i) + 1)
    by_cases e : i = H.size
    · subst e
      rw [up_s, up_s, up_s, up_s, up_n _ _ (by omega), up_n _ _ (by omega)]
      refine ⟨hp.1, hp.2, hst.1, hst.2, fun c => ?_, fun c => ?_⟩
      · rw [if_pos c, if_pos c]; omega
      · rw [if_neg c, if_neg c]; have := hl c; omega
    · have h5 := h4 i hi (by omega)
      rw [up_n _ _ e, up_n _ _ e, up_n _ _ e, up_n _ _ e, up_n _ _ (by omega), up_n _ _ (by omega)]
      exact h5
theorem HV_gr {H : HisS} {V : MvS} {p st : Int} (h : HV H V) (hH : HH H) (hp : 0 ≤ p ∧ p < H.size) (hpr : V.present = p) : HV (gr H p st) (grV V st) := by
  obtain ⟨h1, h2, h3, h4⟩ := h
  have hs := hH.1
  have hb := h3 p hp.1 hp.2
  refine ⟨?_, ?_, ?_, ?_⟩
  · show V.versions + 1 = H.size + 1; omega
  · show up V.parent V.versions _ 0 = -6
    rw [up_n _ _ (by omega)]; exact h2
  · intro i hi hi2
    have hi3 : i < H.size + 1 := hi2
    show up V.wordMany V.versions _ i = up H.wordCounts H.size _ i ∧ up V.letterMany V.versions _ i = up H.letterCounts H.size _ i
    rw [h1, hpr, hb.1, hb.2]
    by_cases e : i = H.size
    · subst e; rw [up_s, up_s, up_s, up_s]; exact ⟨rfl, rfl⟩
    · rw [up_n _ _ e, up_n _ _ e, up_n _ _ e, up_n _ _ e]; exact h3 i hi (by omega)
  · intro i hi hi2
    have hi3 : i < H.size + 1 := hi2
    show up V.parent V.versions _ i = up H.parents H.size _ i ∧ up V.added V.versions _ i = up H.steps H.size _ i
    rw [h1, hpr]
    by_cases e : i = H.size
    · subst e; rw [up_s, up_s, up_s, up_s]; exact ⟨rfl, rfl⟩
    · rw [up_n _ _ e, up_n _ _ e, up_n _ _ e, up_n _ _ e]; exact h4 i hi (by omega)
