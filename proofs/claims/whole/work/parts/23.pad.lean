/-! the pad -/
def PR (P : PadS) (M : MpS) : Prop := M.padMany = P.size ∧ (0 ≤ P.size ∧ P.size ≤ 60) ∧ ∀ i, 0 ≤ i → i < P.size → M.pad i = P.characters i ∧ 33 ≤ P.characters i ∧ P.characters i ≤ 126
def alw (v c : Int) : Prop := (97 ≤ c ∧ c ≤ 104) ∨ (v = 1 ∧ c = 47)
theorem s_say {P : PadS} {M : MpS} {v : Int} (h : PR P M) (hv : InR v) : ∃ r P' M', p_X6_say P v = some (r, P') ∧ p_X7_say M v = some (r, M') ∧ PR P' M' := by
  obtain ⟨h1, h2, h3⟩ := id h
  have e3 := e_in (v := v) (a := 33) (b := 126) hv (by decide) (by decide)
  unfold p_X6_say p_X7_say p_X3_size p_X3_add
  by_cases a : 33 ≤ v ∧ v ≤ 126
  · by_cases b : P.size = 60
    · exact ⟨-4, P, M, by simp (disch := omega) only [ck_w, so_bd, ite_true, ite_false, if_pos, if_neg], by simp (disch := omega) only [e3, h1, ck_w, so_bd, ite_true, ite_false, if_pos, if_neg], h⟩
    · refine ⟨P.size + 1, (up P.characters P.size v, P.size + 1), (up M.pad P.size v, P.size + 1), by simp (disch := omega) only [ck_w, ix_of, so_bd, ite_true, ite_false, if_pos, if_neg], by simp (disch := omega) only [e3, h1, ck_w, ix_of, so_bd, ite_true, ite_false, if_pos, if_neg], rfl, ?_, ?_⟩
      · show 0 ≤ P.size + 1 ∧ P.size + 1 ≤ 60; omega
      · intro i hi hi2
        have hi3 : i < P.size + 1 := hi2
        show up M.pad P.size v i = up P.characters P.size v i ∧ 33 ≤ up P.characters P.size v i ∧ up P.characters P.size v i ≤ 126
        by_cases e : i = P.size
        · subst e; rw [up_s, up_s]; exact ⟨rfl, a⟩
        · rw [up_n _ _ e, up_n _ _ e]; exact h3 i hi (by omega)
  · by_cases c : v < 33
    · exact ⟨-2, P, M, by simp (disch := omega) only [ck_w, so_bd, ite_true, ite_false, if_pos, if_neg], by simp (disch := omega) only [e3, h1, ck_w, so_bd, ite_true, ite_false, if_pos, if_neg], h⟩
    · exact ⟨-2, P, M, by simp (disch := omega) only [ck_w, so_bd, ite_true, ite_false, if_pos, if_neg], by simp (disch := omega) only [e3, h1, ck_w, so_bd, ite_true, ite_false, if_pos, if_neg], h⟩
theorem PR_0 {P : PadS} {M : MpS} : PR (P.characters, 0) (M.pad, 0) := ⟨rfl, by show (0 : Int) ≤ 0 ∧ (0 : Int) ≤ 60; omega, fun i h1 h2 => absurd (show i < 0 from h2) (by omega)⟩
theorem s_wipe {P : PadS} {M : MpS} (h : PR P M) : ∃ r P' M', p_X6_wipe P = some (r, P') ∧ p_X7_wipe M = some (r, M') ∧ PR P' M' := by
  refine ⟨P.size, (P.characters, 0), (M.pad, 0), rfl, ?_, PR_0⟩
  unfold p_X7_wipe; rw [h.1]
theorem s_padq {P : PadS} {M : MpS} {v : Int} (h : PR P M) (hv : InR v) : ∃ r, p_X6_pad P v = some r ∧ p_X7_pad M v = some r := by
  obtain ⟨h1, h2, h3⟩ := id h
  have e3 := e_in (v := v) (a := 0) (b := P.size - 1) hv (by decide) (by omega)
  unfold p_X6_pad p_X7_pad p_X3_size p_X3_characterAt
  by_cases a : v = -1
  · exact ⟨P.size, by simp (disch := omega) only [ck_w, so_bd, ite_true, ite_false, if_pos, if_neg], by simp (disch := omega) only [h1, ck_w, so_bd, ite_true, ite_false, if_pos, if_neg]⟩
  · by_cases b : 0 ≤ v ∧ v < P.size
    · exact ⟨P.characters v, by simp (disch := omega) only [ck_w, ix_of, so_bd, ite_true, ite_false, if_pos, if_neg], by simp (disch := omega) only [e3, h1, (h3 v b.1 b.2).1, ck_w, ix_of, so_bd, ite_true, ite_false, if_pos, if_neg]⟩
    · by_cases c : v < 0
      · exact ⟨-6, by simp (disch := omega) only [ck_w, so_bd, ite_true, ite_false, if_pos, if_neg], by simp (disch := omega) only [e3, h1, ck_w, so_bd, ite_true, ite_false, if_pos, if_neg]⟩
      · exact ⟨-6, by simp (disch := omega) only [ck_w, so_bd, ite_true, ite_false, if_pos, if_neg], by simp (disch := omega) only [e3, h1, ck_w, so_bd, ite_true, ite_false, if_pos, if_neg]⟩
theorem e_isLetter7 {c : Int} (hc : InR c) : p_X7_isLetter c = some (if 97 ≤ c ∧ c ≤ 104 then 1 else 0) := by
  unfold p_X7_isLetter
  rw [e_in hc (by decide) (by decide), so_bd]
  by_cases h : 97 ≤ c ∧ c ≤ 104
  · rw [if_pos h]; rfl
  · rw [if_neg h]; rfl
/-- the fault, on both sides, and what its absence says -/
theorem s_ff {n : Nat} (hn : 1000 ≤ n) {P : PadS} {M : MpS} {v : Int} (h : PR P M) (hv : v = 0 ∨ v = 1) : ∃ r : Int ⊕ Unit, lp (p_X3_firstFault_b2 n P v) n 0 = some r ∧ lp (p_X7_faultOf_b2 n M v) n 0 = some r ∧ ((∃ k, r = .inl k ∧ 0 ≤ k ∧ k < P.size) ∨ (r = .inr () ∧ ∀ i, 0 ≤ i → i < P.size → alw v (P.characters i))) := by
  obtain ⟨h1, h2, h3⟩ := id h
  have hl : ∃ r r', lp (p_X3_firstFault_b2 n P v) n 0 = some r ∧ lp (p_X7_faultOf_b2 n M v) n 0 = some r' ∧ (r = r' ∧ ((∃ k, r = .inl k ∧ 0 ≤ k ∧ k < P.size) ∨ (r = .inr () ∧ ∀ i, 0 ≤ i → i < P.size → alw v (P.characters i)))) := by
    refine lp_sim (b1 := p_X3_firstFault_b2 n P v) (b2 := p_X7_faultOf_b2 n M v) (fun z w => z = w ∧ 0 ≤ z ∧ z ≤ P.size ∧ ∀ i, 0 ≤ i → i < z → alw v (P.characters i)) _ (fun z => P.size - z) ?_ n n 0 0 ⟨rfl, Int.le_refl _, h2.1, fun i a b => absurd a (by omega)⟩ (by omega) (by omega) (by omega) (by omega)
    rintro i w ⟨rfl, hi, hi2, ha⟩
    unfold p_X3_firstFault_b2 p_X7_faultOf_b2 p_X3_firstFault_j40 p_X3_firstFault_j44
    by_cases c : i < P.size
    · have hc := h3 i hi c
      have e1 := e_isLetter6 (v := P.characters i - 97) (by omega)
      have e2 := e_isLetter7 (c := P.characters i) (by omega)
      by_cases d : 97 ≤ P.characters i ∧ P.characters i ≤ 104
      · refine Or.inl ⟨i + 1, i + 1, by simp (disch := omega) only [e1, ck_w, ix_of, so_bd, ite_true, ite_false, if_pos, if_neg], by simp (disch := omega) only [h1, hc.1, e2, ck_w, ix_of, so_bd, ite_true, ite_false, if_pos, if_neg], ⟨rfl, by omega, by omega, fun j a b => ?_⟩, by omega, by omega⟩
        by_cases e : j = i
        · subst e; exact Or.inl d
        · exact ha j a (by omega)
      · by_cases g : v = 1 ∧ P.characters i = 47
        · refine Or.inl ⟨i + 1, i + 1, by simp (disch := omega) only [e1, ck_w, ix_of, so_bd, ite_true, ite_false, if_pos, if_neg], by simp (disch := omega) only [h1, hc.1, e2, ck_w, ix_of, so_bd, ite_true, ite_false, if_pos, if_neg], ⟨rfl, by omega, by omega, fun j a b => ?_⟩, by omega, by omega⟩
          by_cases e : j = i
          · subst e; exact Or.inr g
          · exact ha j a (by omega)
        · by_cases k : v = 0
          · exact Or.inr ⟨.inl i, .inl i, by simp (disch := omega) only [e1, ck_w, ix_of, so_bd, ite_true, ite_false, if_pos, if_neg], by simp (disch := omega) only [h1, hc.1, e2, ck_w, ix_of, so_bd, ite_true, ite_false, if_pos, if_neg], rfl, Or.inl ⟨i, rfl, hi, c⟩⟩
          · exact Or.inr ⟨.inl i, .inl i, by simp (disch := omega) only [e1, ck_w, ix_of, so_bd, ite_true, ite_false, if_pos, if_neg], by simp (disch := omega) only [h1, hc.1, e2, ck_w, ix_of, so_bd, ite_true, ite_false, if_pos, if_neg], rfl, Or.inl ⟨i, rfl, hi, c⟩⟩
    · refine Or.inr ⟨.inr (), .inr (), by simp (disch := omega) only [ck_w, ite_true, ite_false, if_pos, if_neg], by simp (disch := omega) only [h1, ck_w, ite_true, ite_false, if_pos, if_neg], rfl, Or.inr ⟨rfl, fun j a b => ha j a (by omega)⟩⟩
  obtain ⟨r, r', e1, e2, rfl, hq⟩ := hl
  exact ⟨r, e1, e2, hq⟩
/-- as a pattern -/
theorem s_fp {n : Nat} (hn : 1000 ≤ n) {P : PadS} {M : MpS} (h : PR P M) : ∃ r, p_X3_faultAsPattern n P = some r ∧ p_X7_faultOf n M 0 = some r ∧ -6 ≤ r ∧ r ≤ 60 ∧ (r = -6 → 1 ≤ P.size ∧ ∀ i, 0 ≤ i → i < P.size → 97 ≤ P.characters i ∧ P.characters i ≤ 104) := by
  obtain ⟨h1, h2, h3⟩ := id h
  obtain ⟨r, e1, e2, hq⟩ := s_ff hn h (v := 0) (Or.inl rfl)
  unfold p_X3_faultAsPattern p_X7_faultOf p_X3_firstFault
  rw [e2, so_bd, e1, so_bd]
  by_cases c : P.size = 0
  · rcases hq with ⟨k, rfl, q⟩ | ⟨rfl, q⟩
    · omega
    · exact ⟨0, by simp (disch := omega) only [ck_w, ite_true, ite_false, if_pos, if_neg], by simp (disch := omega) only [h1, Sum.elim_inr, ck_w, ite_true, ite_false, if_pos, if_neg], by omega, by omega, fun q => by omega⟩
  · rcases hq with ⟨k, rfl, q⟩ | ⟨rfl, q⟩
    · exact ⟨k, by simp (disch := omega) only [Sum.elim_inl, so_bd, ck_w, ite_true, ite_false, if_pos, if_neg], by simp (disch := omega) only [Sum.elim_inl], by omega, by omega, fun q => by omega⟩
    · refine ⟨-6, by simp (disch := omega) only [Sum.elim_inr, so_bd, ck_w, ite_true, ite_false, if_pos, if_neg], by simp (disch := omega) only [h1, Sum.elim_inr, ck_w, ite_true, ite_false, if_pos, if_neg], by omega, by omega, fun _ => ⟨by omega, fun i a b => ?_⟩⟩
      rcases q i a b with q | q
      · exact q
      · omega
/-- as words -/
theorem s_fw {n : Nat} (hn : 1000 ≤ n) {P : PadS} {M : MpS} (h : PR P M) : ∃ r, p_X3_faultAsWords n P = some r ∧ p_X7_faultOf n M 1 = some r ∧ -6 ≤ r ∧ r ≤ 60 ∧ (r = -6 → ∀ i, 0 ≤ i → i < P.size → (97 ≤ P.characters i ∧ P.characters i ≤ 104) ∨ P.characters i = 47) := by
  obtain ⟨h1, h2, h3⟩ := id h
  obtain ⟨r, e1, e2, hq⟩ := s_ff hn h (v := 1) (Or.inr rfl)
  unfold p_X3_faultAsWords p_X7_faultOf p_X3_firstFault
  rw [e2, so_bd, e1, so_bd]
  rcases hq with ⟨k, rfl, q⟩ | ⟨rfl, q⟩
  · exact ⟨k, by simp (disch := omega) only [Sum.elim_inl, so_bd], by simp (disch := omega) only [Sum.elim_inl], by omega, by omega, fun q => by omega⟩
  · refine ⟨-6, by simp (disch := omega) only [Sum.elim_inr, so_bd], by simp (disch := omega) only [Sum.elim_inr, ck_w, ite_true, ite_false, if_pos, if_neg], by omega, by omega, fun _ i a b => ?_⟩
    rcases q i a b with q | q
    · exact Or.inl q
    · exact Or.inr q.2
theorem s_fault {n : Nat} (hn : 1000 ≤ n) {P : PadS} {M : MpS} {v : Int} (h : PR P M) (hv : InR v) : ∃ r, p_X6_fault n P v = some r ∧ p_X7_fault n M v = some r := by
  have e3 := e_in (v := v) (a := 0) (b := 1) hv (by decide) (by decide)
  obtain ⟨r, a1, a2, a3⟩ := s_fp hn h
  obtain ⟨q, b1, b2, b3⟩ := s_fw hn h
  unfold p_X6_fault p_X7_fault p_X6_fault_j12
  by_cases a : v = 0
  · subst a
    exact ⟨r, by simp (disch := omega) only [a1, so_bd, ck_w, ite_true, ite_false, if_pos, if_neg], by simp (disch := omega) only [e3, a2, so_bd, ck_w, ite_true, ite_false, if_pos, if_neg]⟩
  · by_cases b : v = 1
    · subst b
      exact ⟨q, by simp (disch := omega) only [b1, so_bd, ck_w, ite_true, ite_false, if_pos, if_neg], by simp (disch := omega) only [e3, b2, so_bd, ck_w, ite_true, ite_false, if_pos, if_neg]⟩
    · exact ⟨-2, by simp (disch := omega) only [so_bd, ck_w, ite_true, ite_false, if_pos, if_neg], by simp (disch := omega) only [e3, so_bd, ck_w, ite_true, ite_false, if_pos, if_neg]⟩
/-- the slashes up to a place -/
noncomputable def slN (P : PadS) (k : Int) : Int := sm (fun i => ind (P.characters i = 47)) k
theorem slN_s {P : PadS} {k : Int} (h : 0 ≤ k) : slN P (k + 1) = slN P k + ind (P.characters k = 47) := sm_s h
theorem slN_0 {P : PadS} : slN P 0 = 0 := sm_0 (Int.le_refl _)
theorem slN_le {P : PadS} {k : Int} (h : 0 ≤ k) : 0 ≤ slN P k ∧ slN P k ≤ k := by
  refine int_ind (P := fun k => 0 ≤ slN P k ∧ slN P k ≤ k) (by rw [slN_0]; omega) (fun i hi ih => ?_) k h
  rw [slN_s hi]
  have := ind_nn (P.characters i = 47)
  have := ind_le (P.characters i = 47)
  omega
theorem slN_mono {P : PadS} {a b : Int} (h : 0 ≤ a) (hab : a ≤ b) : slN P a ≤ slN P b ∧ slN P b - slN P a ≤ b - a := by
  obtain ⟨d, rfl⟩ : ∃ d, b = a + d := ⟨b - a, by omega⟩
  have hd : 0 ≤ d := by omega
  refine int_ind (P := fun d => slN P a ≤ slN P (a + d) ∧ slN P (a + d) - slN P a ≤ a + d - a) (by rw [Int.add_zero]; omega) (fun i hi ih => ?_) d hd
  rw [← Int.add_assoc, slN_s (by omega)]
  have := ind_nn (P.characters (a + i) = 47)
  have := ind_le (P.characters (a + i) = 47)
  omega
theorem s_slashes {n : Nat} (hn : 1000 ≤ n) {P : PadS} {M : MpS} (h : PR P M) : p_X3_slashes n P = some (slN P P.size) ∧ lp (p_X7_load_b50 n M) n (0, 0) = some (slN P P.size) := by
  obtain ⟨h1, h2, h3⟩ := id h
  have hl : ∃ r r', lp (p_X3_slashes_b4 n P) n (0, 0) = some r ∧ lp (p_X7_load_b50 n M) n (0, 0) = some r' ∧ (r = r' ∧ r = slN P P.size) := by
    refine lp_sim (b1 := p_X3_slashes_b4 n P) (b2 := p_X7_load_b50 n M) (fun z w => z = w ∧ 0 ≤ z.2 ∧ z.2 ≤ P.size ∧ z.1 = slN P z.2) _ (fun z => P.size - z.2) ?_ n n (0, 0) (0, 0) ⟨rfl, Int.le_refl _, h2.1, slN_0.symm⟩ (by show P.size - 0 < n; omega) (by show P.size - 0 < n; omega) (by omega) (by omega)
    rintro ⟨k, i⟩ w ⟨rfl, hi, hi2, hk⟩
    dsimp only at hi hi2 hk
    unfold p_X3_slashes_b4 p_X7_load_b50
    dsimp only
    by_cases c : i < P.size
    · have hc := h3 i hi c
      by_cases d : P.characters i = 47
      · exact Or.inl ⟨(k + 1, i + 1), (k + 1, i + 1), by simp (disch := omega) only [ck_w, ix_of, ite_true, ite_false, if_pos, if_neg], by simp (disch := omega) only [h1, hc.1, ck_w, ix_of, ite_true, ite_false, if_pos, if_neg], ⟨rfl, by show 0 ≤ i + 1; omega, by show i + 1 ≤ P.size; omega, by show k + 1 = slN P (i + 1); rw [slN_s hi, ind_t d, hk]⟩, by show P.size - (i + 1) < P.size - i; omega, by show 0 < P.size - i; omega⟩
      · exact Or.inl ⟨(k, i + 1), (k, i + 1), by simp (disch := omega) only [ck_w, ix_of, ite_true, ite_false, if_pos, if_neg], by simp (disch := omega) only [h1, hc.1, ck_w, ix_of, ite_true, ite_false, if_pos, if_neg, Int.add_zero], ⟨rfl, by show 0 ≤ i + 1; omega, by show i + 1 ≤ P.size; omega, by show k = slN P (i + 1); rw [slN_s hi, ind_f d, hk, Int.add_zero]⟩, by show P.size - (i + 1) < P.size - i; omega, by show 0 < P.size - i; omega⟩
    · have e : i = P.size := by omega
      subst e
      exact Or.inr ⟨k, k, by simp (disch := omega) only [ck_w, ite_true, ite_false, if_pos, if_neg], by simp (disch := omega) only [h1, ck_w, ite_true, ite_false, if_pos, if_neg], rfl, hk⟩
  obtain ⟨r, r', e1, e2, rfl, rfl⟩ := hl
  exact ⟨by unfold p_X3_slashes; rw [e1]; rfl, e2⟩
