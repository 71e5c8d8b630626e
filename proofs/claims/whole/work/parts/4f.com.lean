/-! sets of words -/
theorem sh7 : ∀ w : Nat, w < 7 → bishl 1 (w : Int) = 2 ^ w := by decide +kernel
theorem sm7 : ∀ w : Nat, w < 7 → (iI (w : Int) &&& 31).toBitVec.smod 32 = BitVec.ofNat 32 w := by decide +kernel
theorem bishr_div {v : Int} (hv : InR v) {w : Nat} (hw : w < 7) : bishr v w = v / 2 ^ w := by
  have e : bishr v w = ((iI v).toBitVec.sshiftRight' ((iI (w : Int) &&& 31).toBitVec.smod 32)).toInt := rfl
  have i : (iI v).toBitVec.toInt = v := iI_toInt hv
  rw [e, sm7 w hw, BitVec.sshiftRight', BitVec.toInt_sshiftRight, i, Int.shiftRight_eq_div_pow, BitVec.toNat_ofNat, Nat.mod_eq_of_lt (by omega)]
  norm_cast
theorem s_words {H : HisS} {V : MvS} {pr v : Int} (h : HR H V pr) (hv : InR v) : ∃ r, p_X6_isWordSet pr H v = some r ∧ p_X7_areWords V v = some r ∧ (r = 0 ∨ r = 1) := by
  have hH := h.1
  have hz := hH.1
  have hw : 0 ≤ pr ∧ pr < H.size := h.2.2.2
  have wm := (h.2.1.2.2.1 pr hw.1 hw.2).1
  have wb := hH.2.2.1 pr hw.1 hw.2
  have hp := h.2.2.1
  obtain ⟨w, ew⟩ := Int.eq_ofNat_of_zero_le wb.1
  have w7 : w < 7 := by omega
  have pw : (1 : Int) ≤ 2 ^ w ∧ (2 : Int) ^ w ≤ 64 := by
    have key : ∀ w : Nat, w < 7 → (1 : Int) ≤ 2 ^ w ∧ (2 : Int) ^ w ≤ 64 := by decide +kernel
    exact key w w7
  unfold p_X6_isWordSet p_X7_areWords
  rw [hp, ix_of (by omega), wm, ew, sh7 w w7, e_in hv (by decide) (by unfold InR; omega), so_bd]
  have hv' := hv
  unfold InR at hv'
  rw [ck_w hv', e_wordsIn hz hw, so_bd, ew, bishr_div hv w7]
  by_cases a : v < 0
  · rw [if_pos a, if_neg (by omega), bk_of (Or.inl rfl)]
    exact ⟨0, rfl, rfl, Or.inl rfl⟩
  · have d0 : 0 ≤ v / 2 ^ w := Int.ediv_nonneg (by omega) (by omega)
    have d1 : v / 2 ^ w ≤ v := Int.ediv_le_self _ (by omega)
    rw [if_neg a, ck_w (by omega)]
    by_cases b : v < 2 ^ w
    · rw [if_pos (Int.ediv_eq_zero_of_lt (by omega) b), if_pos (by omega), bk_of (Or.inr rfl)]
      exact ⟨1, rfl, rfl, Or.inr rfl⟩
    · have : v / 2 ^ w ≠ 0 := fun q => by
        have := Int.lt_ediv_add_one_mul_self v (b := 2 ^ w) (by omega)
        rw [q] at this
        omega
      rw [if_neg this, if_neg (by omega), bk_of (Or.inl rfl)]
      exact ⟨0, rfl, rfl, Or.inl rfl⟩
