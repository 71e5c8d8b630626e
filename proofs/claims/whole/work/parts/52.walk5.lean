abbrev rmX6_step : Room := { frames := 6, cells := 0, slots := 0, locals := 139 }
theorem yk_X6_step : xY yX6_step RX6 cX6_step 3 (some .int) wsX6_step rmX6_step 2 := ⟨⟨_, rfl⟩, by decide +kernel, rfl, rfl⟩
theorem i_X1_X6_step : ∀ w ∈ u_ws RX1 TX1 13, w ∈ wsX6_step := fun _ h => List.mem_cons_of_mem _ (List.mem_append_left _ (List.mem_append_right _ h))
theorem i_X2_X6_step : ∀ w ∈ u_ws RX2 TX2 5, w ∈ wsX6_step := fun _ h => List.mem_cons_of_mem _ (List.mem_append_left _ (List.mem_append_left _ (List.mem_append_right _ h)))
theorem i_X4_X6_step : ∀ w ∈ u_ws RX4 TX4 1, w ∈ wsX6_step := fun _ h => List.mem_cons_of_mem _ (List.mem_append_right _ h)
theorem i_X5_X6_step : ∀ w ∈ u_ws RX5 TX5 8, w ∈ wsX6_step := fun _ h => List.mem_cons_of_mem _ (List.mem_append_left _ (List.mem_append_left _ (List.mem_append_left _ (List.mem_append_right _ h))))
theorem i_X6_X6_step : ∀ w ∈ u_ws RX6 TX6 11, w ∈ wsX6_step := fun _ h => List.mem_cons_of_mem _ (List.mem_append_left _ (List.mem_append_left _ (List.mem_append_left _ (List.mem_append_left _ (List.mem_append_right _ h)))))
set_option maxHeartbeats 4000000 in
set_option maxRecDepth 100000 in
theorem k_X6_step (l : Launch) (g : xG) (n : Nat) (aF : Nat → Nat) (aH : Nat → Nat) (aP : Nat → Nat) (aT : Nat → Nat) (aC : Nat → Nat) (aK : Nat → Nat) (aB : Nat → Nat) (aQ : Nat → Nat) (aU : Nat → Nat) (aV : Nat → Nat) (aS : Nat → Nat) (aR : Nat → Nat) (rr : Nat → Nat) (sF : Int) (sH : HisS) (sP : PadS) (sT : TxtS) (sC : ClsS) (sK : SwpS) (sB : BegS) (sQ : TxtS) (sU : TxtS) (sV : TxtS) (sS : SwpS) (sR : SwpS) (v1 : Int) (v2 : Int) (r : Int × TxtS × ClsS × SwpS) (hf : p_X6_step n sF sH sT sC sK v1 v2 = some r) : xMi l yX6_step wsX6_step rmX6_step g [.ref (aF 0), .int (iI v1), .int (iI v2)] ((wF g aF (aH 0) (aP 0) (aT 0) (aC 0) (aB 0) (aQ 0) (aU 0) (aV 0) (aS 0) (aR 0) sF ++ (wH g aH sH ++ (wP g aP sP ++ (wT g aT sT ++ (wC g aC (aK 0) rr sC ++ (wS g aK sK ++ (wB g aB sB ++ (wT g aQ sQ ++ (wT g aU sU ++ (wT g aV sV ++ (wS g aS sS ++ wS g aR sR))))))))))) ++ wR g rr sC.classOf) ((wF g aF (aH 0) (aP 0) (aT 0) (aC 0) (aB 0) (aQ 0) (aU 0) (aV 0) (aS 0) (aR 0) sF ++ (wH g aH sH ++ (wP g aP sP ++ (wT g aT r.2.1 ++ (wC g aC (aK 0) rr r.2.2.1 ++ (wS g aK r.2.2.2 ++ (wB g aB sB ++ (wT g aQ sQ ++ (wT g aU sU ++ (wT g aV sV ++ (wS g aS sS ++ wS g aR sR))))))))))) ++ wR g rr r.2.2.1.classOf) r.1 := by
  refine x_ofW_i (own := RX6) (by decide) rfl rfl (Nat.le_of_ble_eq_true rfl) ?_
  intro p e s m args below meth c ls A QQ C hRet Z hl
  have hl : lv_has ls 3 [(0, .ref (aF 0)), (1, .int (iI v1)), (2, .int (iI v2))] := hl
  unfold p_X6_step at hf
  have hJ22 : ∀ (sT_22 : TxtS) (sC_22 : ClsS) (sK_22 : SwpS) (v1_22 : Int) (v2_22 : Int) (H : Heap) (locs : List Loc) (ls : Array Slot), p_X6_step_j22 n sT_22 sC_22 sK_22 v1_22 v2_22 = some r → xSt g A s ((wF g aF (aH 0) (aP 0) (aT 0) (aC 0) (aB 0) (aQ 0) (aU 0) (aV 0) (aS 0) (aR 0) sF ++ (wH g aH sH ++ (wP g aP sP ++ (wT g aT sT_22 ++ (wC g aC (aK 0) rr sC_22 ++ (wS g aK sK_22 ++ (wB g aB sB ++ (wT g aQ sQ ++ (wT g aU sU ++ (wT g aV sV ++ (wS g aS sS ++ wS g aR sR))))))))))) ++ wR g rr sC_22.classOf) H locs → lv_has ls 3 [(0, .ref (aF 0)), (1, .int (iI v1_22)), (2, .int (iI v2_22))] → W p l e rmX6_step s m args below meth c H locs 0 0 QQ (F0 m 22 ls []) := by
    intro sT_22 sC_22 sK_22 v1_22 v2_22 H locs ls hj22 Z hl
    unfold p_X6_step_j22 at hj22
    refine lv_iload_n C.1 C.2.1 dX6_step_22 rfl (lv_at hl 2 rfl) ?_
    obtain ⟨r1, hr1, h2⟩ := bd_some hj22
    clear hj22
    refine x_callS_i (As := [.int (iI v2_22)]) (rest := []) C Z (k_X6_isLetter l g n v2_22 r1 hr1) gX6_step_X6_isLetter yk_X6_isLetter ⟨Nat.le_of_ble_eq_true rfl, Nat.le_of_ble_eq_true rfl⟩ ⟨Nat.zero_le _, Nat.zero_le _⟩ hl.1 rfl (Nat.le_of_ble_eq_true rfl) rfl dX6_step_23 (fun H locs Z => ?_)
    have q3 := (ck_some h2).1
    have h4 := (ck_some h2).2
    clear h2
    refine x_if_ne (tgt := 32) C dX6_step_26 (by decide) q3 (fun c5 => ?_) (fun c5 => ?_)
    · have h6 := if_n h4 c5
      clear h4
      refine lv_aload_n C.1 C.2.1 dX6_step_32 rfl (lv_at hl 0 rfl) ?_
      refine x_get C Z 0 rfl rfl i_X6_X6_step (k := 3) (by decide) (List.mem_of_getElem? (i := 1) rfl) rfl dX6_step_33 ?_
      refine lv_aload_n C.1 C.2.1 dX6_step_36 rfl (lv_at hl 0 rfl) ?_
      refine x_get C Z 0 rfl rfl i_X6_X6_step (k := 2) (by decide) (List.mem_of_getElem? (i := 2) rfl) rfl dX6_step_37 ?_
      refine lv_iload_n C.1 C.2.1 dX6_step_40 rfl (lv_at hl 1 rfl) ?_
      refine lv_iload_n C.1 C.2.1 dX6_step_41 rfl (lv_at hl 2 rfl) ?_
      obtain ⟨r8, hr8, h9⟩ := bd_some h6
      clear h6
      refine x_callV_i_P (As := [.ref (aT 0), .int (iI v1_22), .int (iI v2_22)]) (rest := []) (q0 := 0) (X2 := (wF g aF (aH 0) (aP 0) (aT 0) (aC 0) (aB 0) (aQ 0) (aU 0) (aV 0) (aS 0) (aR 0) sF ++ (wH g aH sH ++ (wP g aP sP ++ (wT g aT sT_22 ++ (wC g aC (aK 0) rr sC_22 ++ (wS g aK sK_22 ++ (wB g aB sB ++ (wT g aQ sQ ++ (wT g aU sU ++ (wT g aV sV ++ (wS g aS sS ++ wS g aR sR)))))))))))) C Z fr_FHPTCKBQUVSR_4_5_3 (k_X1_classAfter l g n aC aK aT rr sC_22 sK_22 sT_22 v1_22 v2_22 r8 hr8) gX6_step_X1_classAfter yk_X1_classAfter ⟨Nat.le_of_ble_eq_true rfl, Nat.le_of_ble_eq_true rfl⟩ rfl rfl ⟨Nat.zero_le _, Nat.zero_le _⟩ hl.1 rfl (Nat.le_of_ble_eq_true rfl) rfl dX6_step_42 (fun H locs Z => ?_)
      have h10 := Option.some.inj h9
      subst h10
      exact hRet _ _ _ _ Z dX6_step_45
    · have h7 := if_p h4 c5
      clear h4
      refine x_bipush C dX6_step_29 (by decide) ?_
      have h11 := Option.some.inj h7
      subst h11
      exact hRet _ _ _ _ Z dX6_step_31
  refine lv_aload_n C.1 C.2.1 dX6_step_0 rfl (lv_at hl 0 rfl) ?_
  obtain ⟨r12, hr12, h13⟩ := bd_some hf
  clear hf
  refine x_callV_v_id (As := []) (rest := []) (q0 := 0) C Z (k_X6_showClasses l g n aF aH aP aT aC aK aB aQ aU aV aS aR rr sF sH sP sT sC sK sB sQ sU sV sS sR r12 hr12) gX6_step_X6_showClasses yk_X6_showClasses ⟨Nat.le_of_ble_eq_true rfl, Nat.le_of_ble_eq_true rfl⟩ rfl rfl ⟨Nat.zero_le _, Nat.zero_le _⟩ hl.1 rfl (Nat.le_of_ble_eq_true rfl) rfl dX6_step_1 (fun H locs Z => ?_)
  refine lv_iload_n C.1 C.2.1 dX6_step_4 rfl (lv_at hl 1 rfl) ?_
  refine x_iconst C dX6_step_5 ?_
  have q14 := (ck_some h13).1
  have h15 := (ck_some h13).2
  clear h13
  refine x_icmp_eq (tgt := 22) C dX6_step_6 (by decide) q14 (by decide) (fun c16 => ?_) (fun c16 => ?_)
  · have h17 := if_p h15 c16
    clear h15
    exact hJ22 r12.1 r12.2.1 r12.2.2 v1 v2 _ _ _ h17 Z (lv_sub hl [0, 1, 2] rfl)
  · have h18 := if_n h15 c16
    clear h15
    refine lv_aload_n C.1 C.2.1 dX6_step_9 rfl (lv_at hl 0 rfl) ?_
    refine x_get C Z 0 rfl rfl i_X6_X6_step (k := 3) (by decide) (List.mem_of_getElem? (i := 1) rfl) rfl dX6_step_10 ?_
    refine lv_iload_n C.1 C.2.1 dX6_step_13 rfl (lv_at hl 1 rfl) ?_
    obtain ⟨r19, hr19, h20⟩ := bd_some h18
    clear h18
    refine x_callV_i_P (As := [.int (iI v1)]) (rest := []) (q0 := 0) (X2 := (wF g aF (aH 0) (aP 0) (aT 0) (aC 0) (aB 0) (aQ 0) (aU 0) (aV 0) (aS 0) (aR 0) sF ++ (wH g aH sH ++ (wP g aP sP ++ (wT g aT r12.1 ++ (wC g aC (aK 0) rr r12.2.1 ++ (wS g aK r12.2.2 ++ (wB g aB sB ++ (wT g aQ sQ ++ (wT g aU sU ++ (wT g aV sV ++ (wS g aS sS ++ wS g aR sR)))))))))))) C Z fr_FHPTCKBQUVSR_4_5 (k_X1_has l g n aC aK rr r12.2.1 r12.2.2 v1 r19 hr19) gX6_step_X1_has yk_X1_has ⟨Nat.le_of_ble_eq_true rfl, Nat.le_of_ble_eq_true rfl⟩ rfl rfl ⟨Nat.zero_le _, Nat.zero_le _⟩ hl.1 rfl (Nat.le_of_ble_eq_true rfl) rfl dX6_step_14 (fun H locs Z => ?_)
    have q21 := (ck_some h20).1
    have h22 := (ck_some h20).2
    clear h20
    refine x_if_ne (tgt := 22) C dX6_step_17 (by decide) q21 (fun c23 => ?_) (fun c23 => ?_)
    · have h24 := if_n h22 c23
      clear h22
      exact hJ22 r12.1 r12.2.1 r12.2.2 v1 v2 _ _ _ h24 Z (lv_sub hl [0, 1, 2] rfl)
    · have h25 := if_p h22 c23
      clear h22
      refine x_iconst C dX6_step_20 ?_
      have h26 := Option.some.inj h25
      subst h26
      exact hRet _ _ _ _ Z dX6_step_21
abbrev rmX6_isWordSet : Room := { frames := 2, cells := 0, slots := 0, locals := 42 }
theorem yk_X6_isWordSet : xY yX6_isWordSet RX6 cX6_isWordSet 2 (some .boolean) wsX6_isWordSet rmX6_isWordSet 1 := ⟨⟨_, rfl⟩, by decide +kernel, rfl, rfl⟩
theorem i_X2_X6_isWordSet : ∀ w ∈ u_ws RX2 TX2 5, w ∈ wsX6_isWordSet := fun _ h => List.mem_cons_of_mem _ (List.mem_append_right _ h)
theorem i_X6_X6_isWordSet : ∀ w ∈ u_ws RX6 TX6 11, w ∈ wsX6_isWordSet := fun _ h => List.mem_cons_of_mem _ (List.mem_append_left _ (List.mem_append_right _ h))
set_option maxHeartbeats 4000000 in
set_option maxRecDepth 100000 in
theorem k_X6_isWordSet (l : Launch) (g : xG) (n : Nat) (aF : Nat → Nat) (aH : Nat → Nat) (aP : Nat → Nat) (aT : Nat → Nat) (aC : Nat → Nat) (aK : Nat → Nat) (aB : Nat → Nat) (aQ : Nat → Nat) (aU : Nat → Nat) (aV : Nat → Nat) (aS : Nat → Nat) (aR : Nat → Nat) (rr : Nat → Nat) (sF : Int) (sH : HisS) (sP : PadS) (sT : TxtS) (sC : ClsS) (sK : SwpS) (sB : BegS) (sQ : TxtS) (sU : TxtS) (sV : TxtS) (sS : SwpS) (sR : SwpS) (v1 : Int) (r : Int) (hf : p_X6_isWordSet sF sH v1 = some r) : xMi l yX6_isWordSet wsX6_isWordSet rmX6_isWordSet g [.ref (aF 0), .int (iI v1)] ((wF g aF (aH 0) (aP 0) (aT 0) (aC 0) (aB 0) (aQ 0) (aU 0) (aV 0) (aS 0) (aR 0) sF ++ (wH g aH sH ++ (wP g aP sP ++ (wT g aT sT ++ (wC g aC (aK 0) rr sC ++ (wS g aK sK ++ (wB g aB sB ++ (wT g aQ sQ ++ (wT g aU sU ++ (wT g aV sV ++ (wS g aS sS ++ wS g aR sR))))))))))) ++ wR g rr sC.classOf) ((wF g aF (aH 0) (aP 0) (aT 0) (aC 0) (aB 0) (aQ 0) (aU 0) (aV 0) (aS 0) (aR 0) sF ++ (wH g aH sH ++ (wP g aP sP ++ (wT g aT sT ++ (wC g aC (aK 0) rr sC ++ (wS g aK sK ++ (wB g aB sB ++ (wT g aQ sQ ++ (wT g aU sU ++ (wT g aV sV ++ (wS g aS sS ++ wS g aR sR))))))))))) ++ wR g rr sC.classOf) r := by
  refine x_ofW_z (own := RX6) (by decide) rfl rfl (Nat.le_of_ble_eq_true rfl) ?_
  intro p e s m args below meth c ls A QQ C hRet Z hl
  have hl : lv_has ls 2 [(0, .ref (aF 0)), (1, .int (iI v1))] := hl
  unfold p_X6_isWordSet at hf
  refine lv_iload_n C.1 C.2.1 dX6_isWordSet_0 rfl (lv_at hl 1 rfl) ?_
  have q1 := (ck_some hf).1
  have h2 := (ck_some hf).2
  clear hf
  refine x_if_lt (tgt := 24) C dX6_isWordSet_1 (by decide) q1 (fun c3 => ?_) (fun c3 => ?_)
  · have h4 := if_p h2 c3
    clear h2
    refine x_iconst C dX6_isWordSet_24 ?_
    have h6 := Option.some.inj h4
    subst h6
    exact hRet _ _ _ _ (x_bool (Or.inl rfl)) Z dX6_isWordSet_25
  · have h5 := if_n h2 c3
    clear h2
    refine lv_iload_n C.1 C.2.1 dX6_isWordSet_4 rfl (lv_at hl 1 rfl) ?_
    refine lv_aload_n C.1 C.2.1 dX6_isWordSet_5 rfl (lv_at hl 0 rfl) ?_
    refine x_get C Z 0 rfl rfl i_X6_X6_isWordSet (k := 0) (by decide) (List.mem_of_getElem? (i := 1) rfl) rfl dX6_isWordSet_6 ?_
    refine lv_aload_n C.1 C.2.1 dX6_isWordSet_9 rfl (lv_at hl 0 rfl) ?_
    refine x_get C Z 0 rfl rfl i_X6_X6_isWordSet (k := 10) (by decide) (List.mem_of_getElem? (i := 2) rfl) rfl dX6_isWordSet_10 ?_
    obtain ⟨r7, hr7, h8⟩ := bd_some h5
    clear h5
    refine x_callV_i_Q (As := [.int (iI sF)]) (rest := [.int (iI v1)]) (q0 := 0) (X2 := (wF g aF (aH 0) (aP 0) (aT 0) (aC 0) (aB 0) (aQ 0) (aU 0) (aV 0) (aS 0) (aR 0) sF ++ (wH g aH sH ++ (wP g aP sP ++ (wT g aT sT ++ (wC g aC (aK 0) rr sC ++ (wS g aK sK ++ (wB g aB sB ++ (wT g aQ sQ ++ (wT g aU sU ++ (wT g aV sV ++ (wS g aS sS ++ wS g aR sR)))))))))))) C Z fr_FHPTCKBQUVSR_1 (k_X2_wordsIn l g n aH sH sF r7 hr7) gX6_isWordSet_X2_wordsIn yk_X2_wordsIn ⟨Nat.le_of_ble_eq_true rfl, Nat.le_of_ble_eq_true rfl⟩ rfl rfl ⟨Nat.zero_le _, Nat.zero_le _⟩ hl.1 rfl (Nat.le_of_ble_eq_true rfl) rfl dX6_isWordSet_13 (fun H locs Z => ?_)
    refine x_ishr C dX6_isWordSet_16 ?_
    have q9 := (ck_some h8).1
    have h10 := (ck_some h8).2
    clear h8
    refine x_if_ne (tgt := 24) C dX6_isWordSet_17 (by decide) q9 (fun c11 => ?_) (fun c11 => ?_)
    · have h12 := if_n h10 c11
      clear h10
      refine x_iconst C dX6_isWordSet_24 ?_
      have h14 := Option.some.inj h12
      subst h14
      exact hRet _ _ _ _ (x_bool (Or.inl rfl)) Z dX6_isWordSet_25
    · have h13 := if_p h10 c11
      clear h10
      refine x_iconst C dX6_isWordSet_20 ?_
      refine lv_goto (tgt := 25) C.1 C.2.1 dX6_isWordSet_21 (by decide) ?_
      have h15 := Option.some.inj h13
      subst h15
      exact hRet _ _ _ _ (x_bool (Or.inr rfl)) Z dX6_isWordSet_25
abbrev rmJ6_bitCount_0f7a4 : Room := { frames := 0, cells := 0, slots := 0, locals := 0 }
theorem yk_J6_bitCount_0f7a4 : xY yJ6_bitCount_0f7a4 RJ6 cJ6_bitCount_0f7a4 1 (some .int) wsJ6_bitCount_0f7a4 rmJ6_bitCount_0f7a4 1 := ⟨⟨_, rfl⟩, by decide +kernel, rfl, rfl⟩
set_option maxHeartbeats 4000000 in
set_option maxRecDepth 100000 in
theorem k_J6_bitCount_0f7a4 (l : Launch) (g : xG) (n : Nat) (v0 : Int) (r : Int) (hf : p_J6_bitCount_0f7a4 v0 = some r) : xMi l yJ6_bitCount_0f7a4 wsJ6_bitCount_0f7a4 rmJ6_bitCount_0f7a4 g [.int (iI v0)] ([]) ([]) r := by
  refine x_ofW_i (own := RJ6) (by decide) rfl rfl (Nat.le_of_ble_eq_true rfl) ?_
  intro p e s m args below meth c ls A QQ C hRet Z hl
  have hl : lv_has ls 1 [(0, .int (iI v0))] := hl
  unfold p_J6_bitCount_0f7a4 at hf
  refine lv_iload_n C.1 C.2.1 dJ6_bitCount_0f7a4_0 rfl (lv_at hl 0 rfl) ?_
  refine lv_iload_n C.1 C.2.1 dJ6_bitCount_0f7a4_1 rfl (lv_at hl 0 rfl) ?_
  refine x_iconst C dJ6_bitCount_0f7a4_2 ?_
  refine x_iushr C dJ6_bitCount_0f7a4_3 ?_
  refine x_ldcw (x := 1431655765) C dJ6_bitCount_0f7a4_4 (hts := C.2.2.2.2.1 _ (List.mem_of_getElem? (i := 1) rfl)) (by decide) ?_
  refine x_iand C dJ6_bitCount_0f7a4_7 ?_
  refine x_isub C dJ6_bitCount_0f7a4_8 ?_
  refine lv_istore_n (lv' := [(0, .int (iI (v0 - (biand (biushr v0 1) 1431655765))))]) C.1 C.2.1 dJ6_bitCount_0f7a4_9 rfl hl (by decide) rfl (fun ls hl => ?_)
  refine lv_iload_n C.1 C.2.1 dJ6_bitCount_0f7a4_10 rfl (lv_at hl 0 rfl) ?_
  refine x_ldcw (x := 858993459) C dJ6_bitCount_0f7a4_11 (hts := C.2.2.2.2.1 _ (List.mem_of_getElem? (i := 2) rfl)) (by decide) ?_
  refine x_iand C dJ6_bitCount_0f7a4_14 ?_
  refine lv_iload_n C.1 C.2.1 dJ6_bitCount_0f7a4_15 rfl (lv_at hl 0 rfl) ?_
  refine x_iconst C dJ6_bitCount_0f7a4_16 ?_
  refine x_iushr C dJ6_bitCount_0f7a4_17 ?_
  refine x_ldcw (x := 858993459) C dJ6_bitCount_0f7a4_18 (hts := C.2.2.2.2.1 _ (List.mem_of_getElem? (i := 2) rfl)) (by decide) ?_
  refine x_iand C dJ6_bitCount_0f7a4_21 ?_
  refine x_iadd C dJ6_bitCount_0f7a4_22 ?_
  refine lv_istore_n (lv' := [(0, .int (iI ((biand (v0 - (biand (biushr v0 1) 1431655765)) 858993459) + (biand (biushr (v0 - (biand (biushr v0 1) 1431655765)) 2) 858993459))))]) C.1 C.2.1 dJ6_bitCount_0f7a4_23 rfl hl (by decide) rfl (fun ls hl => ?_)
  refine lv_iload_n C.1 C.2.1 dJ6_bitCount_0f7a4_24 rfl (lv_at hl 0 rfl) ?_
  refine lv_iload_n C.1 C.2.1 dJ6_bitCount_0f7a4_25 rfl (lv_at hl 0 rfl) ?_
  refine x_iconst C dJ6_bitCount_0f7a4_26 ?_
  refine x_iushr C dJ6_bitCount_0f7a4_27 ?_
  refine x_iadd C dJ6_bitCount_0f7a4_28 ?_
  refine x_ldcw (x := 252645135) C dJ6_bitCount_0f7a4_29 (hts := C.2.2.2.2.1 _ (List.mem_of_getElem? (i := 3) rfl)) (by decide) ?_
  refine x_iand C dJ6_bitCount_0f7a4_32 ?_
  refine lv_istore_n (lv' := [(0, .int (iI (biand (((biand (v0 - (biand (biushr v0 1) 1431655765)) 858993459) + (biand (biushr (v0 - (biand (biushr v0 1) 1431655765)) 2) 858993459)) + (biushr ((biand (v0 - (biand (biushr v0 1) 1431655765)) 858993459) + (biand (biushr (v0 - (biand (biushr v0 1) 1431655765)) 2) 858993459)) 4)) 252645135)))]) C.1 C.2.1 dJ6_bitCount_0f7a4_33 rfl hl (by decide) rfl (fun ls hl => ?_)
  refine lv_iload_n C.1 C.2.1 dJ6_bitCount_0f7a4_34 rfl (lv_at hl 0 rfl) ?_
  refine lv_iload_n C.1 C.2.1 dJ6_bitCount_0f7a4_35 rfl (lv_at hl 0 rfl) ?_
  refine x_bipush C dJ6_bitCount_0f7a4_36 (by decide) ?_
  refine x_iushr C dJ6_bitCount_0f7a4_38 ?_
  refine x_iadd C dJ6_bitCount_0f7a4_39 ?_
  refine lv_istore_n (lv' := [(0, .int (iI ((biand (((biand (v0 - (biand (biushr v0 1) 1431655765)) 858993459) + (biand (biushr (v0 - (biand (biushr v0 1) 1431655765)) 2) 858993459)) + (biushr ((biand (v0 - (biand (biushr v0 1) 1431655765)) 858993459) + (biand (biushr (v0 - (biand (biushr v0 1) 1431655765)) 2) 858993459)) 4)) 252645135) + (biushr (biand (((biand (v0 - (biand (biushr v0 1) 1431655765)) 858993459) + (biand (biushr (v0 - (biand (biushr v0 1) 1431655765)) 2) 858993459)) + (biushr ((biand (v0 - (biand (biushr v0 1) 1431655765)) 858993459) + (biand (biushr (v0 - (biand (biushr v0 1) 1431655765)) 2) 858993459)) 4)) 252645135) 8))))]) C.1 C.2.1 dJ6_bitCount_0f7a4_40 rfl hl (by decide) rfl (fun ls hl => ?_)
  refine lv_iload_n C.1 C.2.1 dJ6_bitCount_0f7a4_41 rfl (lv_at hl 0 rfl) ?_
  refine lv_iload_n C.1 C.2.1 dJ6_bitCount_0f7a4_42 rfl (lv_at hl 0 rfl) ?_
  refine x_bipush C dJ6_bitCount_0f7a4_43 (by decide) ?_
  refine x_iushr C dJ6_bitCount_0f7a4_45 ?_
  refine x_iadd C dJ6_bitCount_0f7a4_46 ?_
  refine lv_istore_n (lv' := [(0, .int (iI (((biand (((biand (v0 - (biand (biushr v0 1) 1431655765)) 858993459) + (biand (biushr (v0 - (biand (biushr v0 1) 1431655765)) 2) 858993459)) + (biushr ((biand (v0 - (biand (biushr v0 1) 1431655765)) 858993459) + (biand (biushr (v0 - (biand (biushr v0 1) 1431655765)) 2) 858993459)) 4)) 252645135) + (biushr (biand (((biand (v0 - (biand (biushr v0 1) 1431655765)) 858993459) + (biand (biushr (v0 - (biand (biushr v0 1) 1431655765)) 2) 858993459)) + (biushr ((biand (v0 - (biand (biushr v0 1) 1431655765)) 858993459) + (biand (biushr (v0 - (biand (biushr v0 1) 1431655765)) 2) 858993459)) 4)) 252645135) 8)) + (biushr ((biand (((biand (v0 - (biand (biushr v0 1) 1431655765)) 858993459) + (biand (biushr (v0 - (biand (biushr v0 1) 1431655765)) 2) 858993459)) + (biushr ((biand (v0 - (biand (biushr v0 1) 1431655765)) 858993459) + (biand (biushr (v0 - (biand (biushr v0 1) 1431655765)) 2) 858993459)) 4)) 252645135) + (biushr (biand (((biand (v0 - (biand (biushr v0 1) 1431655765)) 858993459) + (biand (biushr (v0 - (biand (biushr v0 1) 1431655765)) 2) 858993459)) + (biushr ((biand (v0 - (biand (biushr v0 1) 1431655765)) 858993459) + (biand (biushr (v0 - (biand (biushr v0 1) 1431655765)) 2) 858993459)) 4)) 252645135) 8)) 16))))]) C.1 C.2.1 dJ6_bitCount_0f7a4_47 rfl hl (by decide) rfl (fun ls hl => ?_)
  refine lv_iload_n C.1 C.2.1 dJ6_bitCount_0f7a4_48 rfl (lv_at hl 0 rfl) ?_
  refine x_bipush C dJ6_bitCount_0f7a4_49 (by decide) ?_
  refine x_iand C dJ6_bitCount_0f7a4_51 ?_
  have h1 := Option.some.inj hf
  subst h1
  exact hRet _ _ _ _ Z dJ6_bitCount_0f7a4_52
abbrev rmX1_longestShared : Room := { frames := 4, cells := 0, slots := 0, locals := 90 }
theorem yk_X1_longestShared : xY yX1_longestShared RX1 cX1_longestShared 7 (some .int) wsX1_longestShared rmX1_longestShared 3 := ⟨⟨_, rfl⟩, by decide +kernel, rfl, rfl⟩
theorem i_X1_X1_longestShared : ∀ w ∈ u_ws RX1 TX1 13, w ∈ wsX1_longestShared := fun _ h => List.mem_cons_of_mem _ (List.mem_append_left _ (List.mem_append_right _ h))
theorem i_X5_X1_longestShared : ∀ w ∈ u_ws RX5 TX5 8, w ∈ wsX1_longestShared := fun _ h => List.mem_cons_of_mem _ (List.mem_append_right _ h)
set_option maxHeartbeats 4000000 in
set_option maxRecDepth 100000 in
theorem k_X1_longestShared (l : Launch) (g : xG) (n : Nat) (aC : Nat → Nat) (aK : Nat → Nat) (aT : Nat → Nat) (rr : Nat → Nat) (sC : ClsS) (sK : SwpS) (sT : TxtS) (v2 : Int) (v3 : Int) (r : Int) (hf : p_X1_longestShared n sC sT v2 v3 = some r) : xMi l yX1_longestShared wsX1_longestShared rmX1_longestShared g [.ref (aC 0), .ref (aT 0), .int (iI v2), .int (iI v3)] ((wC g aC (aK 0) rr sC ++ (wS g aK sK ++ wT g aT sT)) ++ wR g rr sC.classOf) ((wC g aC (aK 0) rr sC ++ (wS g aK sK ++ wT g aT sT)) ++ wR g rr sC.classOf) r := by
  refine x_ofW_i (own := RX1) (by decide) rfl rfl (Nat.le_of_ble_eq_true rfl) ?_
  intro p e s m args below meth c ls A QQ C hRet Z hl
  have hl : lv_has ls 7 [(0, .ref (aC 0)), (1, .ref (aT 0)), (2, .int (iI v2)), (3, .int (iI v3))] := hl
  unfold p_X1_longestShared at hf
  refine x_bipush C dX1_longestShared_0 (by decide) ?_
  refine lv_istore (lv' := [(4, .int (iI (-6))), (0, .ref (aC 0)), (1, .ref (aT 0)), (2, .int (iI v2)), (3, .int (iI v3))]) C.1 C.2.1 dX1_longestShared_2 hl (by decide) rfl (fun ls hl => ?_)
  refine x_iconst C dX1_longestShared_4 ?_
  refine lv_istore (lv' := [(5, .int (iI 0)), (4, .int (iI (-6))), (0, .ref (aC 0)), (1, .ref (aT 0)), (2, .int (iI v2)), (3, .int (iI v3))]) C.1 C.2.1 dX1_longestShared_5 hl (by decide) rfl (fun ls hl => ?_)
  obtain ⟨ex7, hl7, h96⟩ := bd_some hf
  clear hf
  have hK7 : ∀ (H : Heap) (locs : List Loc) (ls : Array Slot), xSt g A s ((wC g aC (aK 0) rr sC ++ (wS g aK sK ++ wT g aT sT)) ++ wR g rr sC.classOf) H locs → lv_has ls 7 [(4, .int (iI ex7))] → W p l e rmX1_longestShared s m args below meth c H locs 0 0 QQ (F0 m 99 ls []) := by
    intro H locs ls Z hl
    have h97 := h96
    clear h96
    refine lv_iload C.1 C.2.1 dX1_longestShared_99 (lv_at hl 0 rfl) ?_
    have h98 := Option.some.inj h97
    subst h98
    exact hRet _ _ _ _ Z dX1_longestShared_101
  have hL7 : ∀ (k7 : Nat) (z7 : Int × Int) (H : Heap) (locs : List Loc) (ls : Array Slot), lp (p_X1_longestShared_b7 n sC sT v2 v3) k7 z7 = some ex7 → xSt g A s ((wC g aC (aK 0) rr sC ++ (wS g aK sK ++ wT g aT sT)) ++ wR g rr sC.classOf) H locs → lv_has ls 7 [(0, .ref (aC 0)), (1, .ref (aT 0)), (2, .int (iI v2)), (3, .int (iI v3)), (4, .int (iI z7.1)), (5, .int (iI z7.2))] → W p l e rmX1_longestShared s m args below meth c H locs 0 0 QQ (F0 m 7 ls []) := by
    intro k7
    induction k7 with
    | zero => intro z7 H locs ls h; exact (lp_0 h).elim
    | succ k7 ih7 =>
      intro z7 H locs ls h Z hl
      obtain ⟨x7, hb7, hx7⟩ := lp_s h
      clear h
      unfold p_X1_longestShared_b7 at hb7
      have hJ58 : ∀ (v4_58 : Int) (v5_58 : Int) (t0_58 : Int) (H : Heap) (locs : List Loc) (ls : Array Slot), p_X1_longestShared_j58 n sC sT v4_58 v5_58 t0_58 = some x7 → xSt g A s ((wC g aC (aK 0) rr sC ++ (wS g aK sK ++ wT g aT sT)) ++ wR g rr sC.classOf) H locs → lv_has ls 7 [(0, .ref (aC 0)), (1, .ref (aT 0)), (2, .int (iI v2)), (3, .int (iI v3)), (4, .int (iI v4_58)), (5, .int (iI v5_58))] → W p l e rmX1_longestShared s m args below meth c H locs 0 0 QQ (F0 m 58 ls [.int (iI t0_58)]) := by
        intro v4_58 v5_58 t0_58 H locs ls hj58 Z hl
        unfold p_X1_longestShared_j58 at hj58
        refine lv_istore (lv' := [(6, .int (iI t0_58)), (0, .ref (aC 0)), (1, .ref (aT 0)), (2, .int (iI v2)), (3, .int (iI v3)), (4, .int (iI v4_58)), (5, .int (iI v5_58))]) C.1 C.2.1 dX1_longestShared_58 hl (by decide) rfl (fun ls hl => ?_)
        refine lv_iload C.1 C.2.1 dX1_longestShared_60 (lv_at hl 0 rfl) ?_
        have q49 := (ck_some hj58).1
        have h50 := (ck_some hj58).2
        clear hj58
        refine x_if_gt (tgt := 89) C dX1_longestShared_62 (by decide) q49 (fun c51 => ?_) (fun c51 => ?_)
        · have h52 := if_p h50 c51
          clear h50
          refine lv_iload C.1 C.2.1 dX1_longestShared_89 (lv_at hl 6 rfl) ?_
          refine lv_istore (lv' := [(4, .int (iI v5_58)), (6, .int (iI t0_58)), (0, .ref (aC 0)), (1, .ref (aT 0)), (2, .int (iI v2)), (3, .int (iI v3)), (5, .int (iI v5_58))]) C.1 C.2.1 dX1_longestShared_91 hl (by decide) rfl (fun ls hl => ?_)
          refine x_iinc (lv' := [(5, .int (iI (v5_58 + 1))), (4, .int (iI v5_58)), (6, .int (iI t0_58)), (0, .ref (aC 0)), (1, .ref (aT 0)), (2, .int (iI v2)), (3, .int (iI v3))]) C dX1_longestShared_93 hl (k := 6) rfl (by decide) rfl (fun ls hl => ?_)
          refine lv_goto (tgt := 7) C.1 C.2.1 dX1_longestShared_96 (by decide) ?_
          cases h52
          exact ih7 (v5_58, v5_58 + 1) _ _ _ (lp_L2 hx7) Z (lv_sub hl [3, 4, 5, 6, 1, 0] rfl)
        · have h53 := if_n h50 c51
          clear h50
          refine lv_iload C.1 C.2.1 dX1_longestShared_65 (lv_at hl 0 rfl) ?_
          refine x_if_ne (tgt := 93) C dX1_longestShared_67 (by decide) q49 (fun c54 => ?_) (fun c54 => ?_)
          · have h55 := if_n h53 c54
            clear h53
            refine x_iinc (lv' := [(5, .int (iI (v5_58 + 1))), (6, .int (iI t0_58)), (0, .ref (aC 0)), (1, .ref (aT 0)), (2, .int (iI v2)), (3, .int (iI v3)), (4, .int (iI v4_58))]) C dX1_longestShared_93 hl (k := 6) rfl (by decide) rfl (fun ls hl => ?_)
            refine lv_goto (tgt := 7) C.1 C.2.1 dX1_longestShared_96 (by decide) ?_
            cases h55
            exact ih7 (v4_58, v5_58 + 1) _ _ _ (lp_L2 hx7) Z (lv_sub hl [2, 3, 4, 5, 6, 0] rfl)
          · have h56 := if_p h53 c54
            clear h53
            refine lv_aload_n C.1 C.2.1 dX1_longestShared_70 rfl (lv_at hl 2 rfl) ?_
            refine lv_aload_n C.1 C.2.1 dX1_longestShared_71 rfl (lv_at hl 1 rfl) ?_
            refine lv_iload C.1 C.2.1 dX1_longestShared_72 (lv_at hl 6 rfl) ?_
            obtain ⟨r57, hr57, h58⟩ := bd_some h56
            clear h56
            refine x_callV_i_P (As := [.int (iI v5_58)]) (rest := [.ref (aT 0)]) (q0 := 0) (X2 := (wC g aC (aK 0) rr sC ++ (wS g aK sK ++ wT g aT sT))) C Z fr_CKT_0_1 (k_X1_longestStart l g n aC aK rr sC sK v5_58 r57 hr57) gX1_longestShared_X1_longestStart yk_X1_longestStart ⟨Nat.le_of_ble_eq_true rfl, Nat.le_of_ble_eq_true rfl⟩ rfl rfl ⟨Nat.zero_le _, Nat.zero_le _⟩ hl.1 rfl (Nat.le_of_ble_eq_true rfl) rfl dX1_longestShared_74 (fun H locs Z => ?_)
            refine lv_aload_n C.1 C.2.1 dX1_longestShared_77 rfl (lv_at hl 1 rfl) ?_
            refine lv_iload C.1 C.2.1 dX1_longestShared_78 (lv_at hl 5 rfl) ?_
            obtain ⟨r59, hr59, h60⟩ := bd_some h58
            clear h58
            refine x_callV_i_P (As := [.int (iI v4_58)]) (rest := [.int (iI r57), .ref (aT 0)]) (q0 := 0) (X2 := (wC g aC (aK 0) rr sC ++ (wS g aK sK ++ wT g aT sT))) C Z fr_CKT_0_1 (k_X1_longestStart l g n aC aK rr sC sK v4_58 r59 hr59) gX1_longestShared_X1_longestStart yk_X1_longestStart ⟨Nat.le_of_ble_eq_true rfl, Nat.le_of_ble_eq_true rfl⟩ rfl rfl ⟨Nat.zero_le _, Nat.zero_le _⟩ hl.1 rfl (Nat.le_of_ble_eq_true rfl) rfl dX1_longestShared_80 (fun H locs Z => ?_)
            obtain ⟨r61, hr61, h62⟩ := bd_some h60
            clear h60
            refine x_callV_i_Q (As := [.int (iI r57), .int (iI r59)]) (rest := []) (q0 := 0) (X2 := (wC g aC (aK 0) rr sC ++ (wS g aK sK ++ wT g aT sT))) C Z fr_CKT_2 (k_X5_comesBefore l g n aT sT r57 r59 r61 hr61) gX1_longestShared_X5_comesBefore yk_X5_comesBefore ⟨Nat.le_of_ble_eq_true rfl, Nat.le_of_ble_eq_true rfl⟩ rfl rfl ⟨Nat.zero_le _, Nat.zero_le _⟩ hl.1 rfl (Nat.le_of_ble_eq_true rfl) rfl dX1_longestShared_83 (fun H locs Z => ?_)
            have q63 := (ck_some h62).1
            have h64 := (ck_some h62).2
            clear h62
            refine x_if_eq (tgt := 93) C dX1_longestShared_86 (by decide) q63 (fun c65 => ?_) (fun c65 => ?_)
            · have h66 := if_p h64 c65
              clear h64
              refine x_iinc (lv' := [(5, .int (iI (v5_58 + 1))), (6, .int (iI t0_58)), (0, .ref (aC 0)), (1, .ref (aT 0)), (2, .int (iI v2)), (3, .int (iI v3)), (4, .int (iI v4_58))]) C dX1_longestShared_93 hl (k := 6) rfl (by decide) rfl (fun ls hl => ?_)
              refine lv_goto (tgt := 7) C.1 C.2.1 dX1_longestShared_96 (by decide) ?_
              cases h66
              exact ih7 (v4_58, v5_58 + 1) _ _ _ (lp_L2 hx7) Z (lv_sub hl [2, 3, 4, 5, 6, 0] rfl)
            · have h67 := if_n h64 c65
              clear h64
              refine lv_iload C.1 C.2.1 dX1_longestShared_89 (lv_at hl 6 rfl) ?_
              refine lv_istore (lv' := [(4, .int (iI v5_58)), (6, .int (iI t0_58)), (0, .ref (aC 0)), (1, .ref (aT 0)), (2, .int (iI v2)), (3, .int (iI v3)), (5, .int (iI v5_58))]) C.1 C.2.1 dX1_longestShared_91 hl (by decide) rfl (fun ls hl => ?_)
              refine x_iinc (lv' := [(5, .int (iI (v5_58 + 1))), (4, .int (iI v5_58)), (6, .int (iI t0_58)), (0, .ref (aC 0)), (1, .ref (aT 0)), (2, .int (iI v2)), (3, .int (iI v3))]) C dX1_longestShared_93 hl (k := 6) rfl (by decide) rfl (fun ls hl => ?_)
              refine lv_goto (tgt := 7) C.1 C.2.1 dX1_longestShared_96 (by decide) ?_
              cases h67
              exact ih7 (v5_58, v5_58 + 1) _ _ _ (lp_L2 hx7) Z (lv_sub hl [3, 4, 5, 6, 1, 0] rfl)
      refine lv_iload C.1 C.2.1 dX1_longestShared_7 (lv_at hl 5 rfl) ?_
      refine lv_aload_n C.1 C.2.1 dX1_longestShared_9 rfl (lv_at hl 0 rfl) ?_
      refine x_get C Z 0 rfl rfl i_X1_X1_longestShared (k := 11) (by decide) (List.mem_of_getElem? (i := 1) rfl) rfl dX1_longestShared_10 ?_
      have q68 := (ck_some hb7).1
      have h69 := (ck_some hb7).2
      clear hb7
      have q70 := (ck_some h69).1
      have h71 := (ck_some h69).2
      clear h69
      refine x_icmp_ge (tgt := 99) C dX1_longestShared_13 (by decide) q68 q70 (fun c72 => ?_) (fun c72 => ?_)
      · have h73 := if_n h71 c72
        clear h71
        cases h73
        have h75 := lp_R hx7
        subst h75
        exact hK7 _ _ _ Z (lv_sub hl [4] rfl)
      · have h74 := if_p h71 c72
        clear h71
        refine lv_aload_n C.1 C.2.1 dX1_longestShared_16 rfl (lv_at hl 0 rfl) ?_
        refine x_get C Z 0 rfl rfl i_X1_X1_longestShared (k := 8) (by decide) (List.mem_of_getElem? (i := 2) rfl) rfl dX1_longestShared_17 ?_
        refine lv_iload C.1 C.2.1 dX1_longestShared_20 (lv_at hl 5 rfl) ?_
        have q76 := (ix_some h74).1
        have h77 := (ix_some h74).2
        clear h74
        refine x_iald C Z 8 rfl (by decide) q76 dX1_longestShared_22 ?_
        refine lv_iload_n C.1 C.2.1 dX1_longestShared_23 rfl (lv_at hl 2 rfl) ?_
        refine x_iand C dX1_longestShared_24 ?_
        obtain ⟨r78, hr78, h79⟩ := bd_some h77
        clear h77
        refine x_callS_i (As := [.int (iI (biand (sC.wordSets z7.2) v2))]) (rest := []) C Z (k_J6_bitCount_0f7a4 l g n (biand (sC.wordSets z7.2) v2) r78 hr78) gX1_longestShared_J6_bitCount_0f7a4 yk_J6_bitCount_0f7a4 ⟨Nat.le_of_ble_eq_true rfl, Nat.le_of_ble_eq_true rfl⟩ ⟨Nat.zero_le _, Nat.zero_le _⟩ hl.1 rfl (Nat.le_of_ble_eq_true rfl) rfl dX1_longestShared_25 (fun H locs Z => ?_)
        refine lv_iload_n C.1 C.2.1 dX1_longestShared_28 rfl (lv_at hl 3 rfl) ?_
        have q80 := (ck_some h79).1
        have h81 := (ck_some h79).2
        clear h79
        have q82 := (ck_some h81).1
        have h83 := (ck_some h81).2
        clear h81
        refine x_icmp_lt (tgt := 93) C dX1_longestShared_29 (by decide) q80 q82 (fun c84 => ?_) (fun c84 => ?_)
        · have h85 := if_p h83 c84
          clear h83
          refine x_iinc (lv' := [(5, .int (iI (z7.2 + 1))), (0, .ref (aC 0)), (1, .ref (aT 0)), (2, .int (iI v2)), (3, .int (iI v3)), (4, .int (iI z7.1))]) C dX1_longestShared_93 hl (k := 5) rfl (by decide) rfl (fun ls hl => ?_)
          refine lv_goto (tgt := 7) C.1 C.2.1 dX1_longestShared_96 (by decide) ?_
          cases h85
          exact ih7 (z7.1, z7.2 + 1) _ _ _ (lp_L2 hx7) Z (lv_sub hl [1, 2, 3, 4, 5, 0] rfl)
        · have h86 := if_n h83 c84
          clear h83
          refine lv_iload C.1 C.2.1 dX1_longestShared_32 (lv_at hl 4 rfl) ?_
          refine x_bipush C dX1_longestShared_34 (by decide) ?_
          have q87 := (ck_some h86).1
          have h88 := (ck_some h86).2
          clear h86
          refine x_icmp_ne (tgt := 43) C dX1_longestShared_36 (by decide) q87 (by decide) (fun c89 => ?_) (fun c89 => ?_)
          · have h90 := if_n h88 c89
            clear h88
            refine lv_aload_n C.1 C.2.1 dX1_longestShared_43 rfl (lv_at hl 0 rfl) ?_
            refine x_get C Z 0 rfl rfl i_X1_X1_longestShared (k := 4) (by decide) (List.mem_of_getElem? (i := 3) rfl) rfl dX1_longestShared_44 ?_
            refine lv_iload C.1 C.2.1 dX1_longestShared_47 (lv_at hl 5 rfl) ?_
            refine x_iald C Z 4 rfl (by decide) q76 dX1_longestShared_49 ?_
            refine lv_aload_n C.1 C.2.1 dX1_longestShared_50 rfl (lv_at hl 0 rfl) ?_
            refine x_get C Z 0 rfl rfl i_X1_X1_longestShared (k := 4) (by decide) (List.mem_of_getElem? (i := 3) rfl) rfl dX1_longestShared_51 ?_
            refine lv_iload C.1 C.2.1 dX1_longestShared_54 (lv_at hl 4 rfl) ?_
            have q94 := (ix_some h90).1
            have h95 := (ix_some h90).2
            clear h90
            refine x_iald C Z 4 rfl (by decide) q94 dX1_longestShared_56 ?_
            refine x_isub C dX1_longestShared_57 ?_
            exact hJ58 z7.1 z7.2 ((sC.longest z7.2) - (sC.longest z7.1)) _ _ _ h95 Z (lv_sub hl [0, 1, 2, 3, 4, 5] rfl)
          · have h91 := if_p h88 c89
            clear h88
            refine x_iconst C dX1_longestShared_39 ?_
            refine lv_goto (tgt := 58) C.1 C.2.1 dX1_longestShared_40 (by decide) ?_
            exact hJ58 z7.1 z7.2 1 _ _ _ h91 Z (lv_sub hl [0, 1, 2, 3, 4, 5] rfl)
  exact hL7 n ((-6), 0) _ _ _ hl7 Z (lv_sub hl [2, 3, 4, 5, 1, 0] rfl)
abbrev rmX6_common : Room := { frames := 6, cells := 0, slots := 0, locals := 139 }
theorem yk_X6_common : xY yX6_common RX6 cX6_common 4 (some .int) wsX6_common rmX6_common 2 := ⟨⟨_, rfl⟩, by decide +kernel, rfl, rfl⟩
theorem i_X1_X6_common : ∀ w ∈ u_ws RX1 TX1 13, w ∈ wsX6_common := fun _ h => List.mem_cons_of_mem _ (List.mem_append_left _ (List.mem_append_left _ (List.mem_append_right _ h)))
theorem i_X2_X6_common : ∀ w ∈ u_ws RX2 TX2 5, w ∈ wsX6_common := fun _ h => List.mem_cons_of_mem _ (List.mem_append_left _ (List.mem_append_left _ (List.mem_append_left _ (List.mem_append_left _ (List.mem_append_right _ h)))))
theorem i_X3_X6_common : ∀ w ∈ u_ws RX3 TX3 2, w ∈ wsX6_common := fun _ h => List.mem_cons_of_mem _ (List.mem_append_right _ h)
theorem i_X4_X6_common : ∀ w ∈ u_ws RX4 TX4 1, w ∈ wsX6_common := fun _ h => List.mem_cons_of_mem _ (List.mem_append_left _ (List.mem_append_right _ h))
theorem i_X5_X6_common : ∀ w ∈ u_ws RX5 TX5 8, w ∈ wsX6_common := fun _ h => List.mem_cons_of_mem _ (List.mem_append_left _ (List.mem_append_left _ (List.mem_append_left _ (List.mem_append_right _ h))))
theorem i_X6_X6_common : ∀ w ∈ u_ws RX6 TX6 11, w ∈ wsX6_common := fun _ h => List.mem_cons_of_mem _ (List.mem_append_left _ (List.mem_append_left _ (List.mem_append_left _ (List.mem_append_left _ (List.mem_append_left _ (List.mem_append_right _ h))))))
set_option maxHeartbeats 4000000 in
set_option maxRecDepth 100000 in
theorem k_X6_common (l : Launch) (g : xG) (n : Nat) (aF : Nat → Nat) (aH : Nat → Nat) (aP : Nat → Nat) (aT : Nat → Nat) (aC : Nat → Nat) (aK : Nat → Nat) (aB : Nat → Nat) (aQ : Nat → Nat) (aU : Nat → Nat) (aV : Nat → Nat) (aS : Nat → Nat) (aR : Nat → Nat) (rr : Nat → Nat) (sF : Int) (sH : HisS) (sP : PadS) (sT : TxtS) (sC : ClsS) (sK : SwpS) (sB : BegS) (sQ : TxtS) (sU : TxtS) (sV : TxtS) (sS : SwpS) (sR : SwpS) (v1 : Int) (v2 : Int) (r : Int × PadS × TxtS × ClsS × SwpS) (hf : p_X6_common n sF sH sP sT sC sK v1 v2 = some r) : xMi l yX6_common wsX6_common rmX6_common g [.ref (aF 0), .int (iI v1), .int (iI v2)] ((wF g aF (aH 0) (aP 0) (aT 0) (aC 0) (aB 0) (aQ 0) (aU 0) (aV 0) (aS 0) (aR 0) sF ++ (wH g aH sH ++ (wP g aP sP ++ (wT g aT sT ++ (wC g aC (aK 0) rr sC ++ (wS g aK sK ++ (wB g aB sB ++ (wT g aQ sQ ++ (wT g aU sU ++ (wT g aV sV ++ (wS g aS sS ++ wS g aR sR))))))))))) ++ wR g rr sC.classOf) ((wF g aF (aH 0) (aP 0) (aT 0) (aC 0) (aB 0) (aQ 0) (aU 0) (aV 0) (aS 0) (aR 0) sF ++ (wH g aH sH ++ (wP g aP r.2.1 ++ (wT g aT r.2.2.1 ++ (wC g aC (aK 0) rr r.2.2.2.1 ++ (wS g aK r.2.2.2.2 ++ (wB g aB sB ++ (wT g aQ sQ ++ (wT g aU sU ++ (wT g aV sV ++ (wS g aS sS ++ wS g aR sR))))))))))) ++ wR g rr r.2.2.2.1.classOf) r.1 := by
  refine x_ofW_i (own := RX6) (by decide) rfl rfl (Nat.le_of_ble_eq_true rfl) ?_
  intro p e s m args below meth c ls A QQ C hRet Z hl
  have hl : lv_has ls 4 [(0, .ref (aF 0)), (1, .int (iI v1)), (2, .int (iI v2))] := hl
  unfold p_X6_common at hf
  refine lv_aload_n C.1 C.2.1 dX6_common_0 rfl (lv_at hl 0 rfl) ?_
  refine lv_iload_n C.1 C.2.1 dX6_common_1 rfl (lv_at hl 1 rfl) ?_
  obtain ⟨r1, hr1, h2⟩ := bd_some hf
  clear hf
  refine x_callV_i_id (As := [.int (iI v1)]) (rest := []) (q0 := 0) C Z (k_X6_isWordSet l g n aF aH aP aT aC aK aB aQ aU aV aS aR rr sF sH sP sT sC sK sB sQ sU sV sS sR v1 r1 hr1) gX6_common_X6_isWordSet yk_X6_isWordSet ⟨Nat.le_of_ble_eq_true rfl, Nat.le_of_ble_eq_true rfl⟩ rfl rfl ⟨Nat.zero_le _, Nat.zero_le _⟩ hl.1 rfl (Nat.le_of_ble_eq_true rfl) rfl dX6_common_2 (fun H locs Z => ?_)
  have q3 := (ck_some h2).1
  have h4 := (ck_some h2).2
  clear h2
  refine x_if_ne (tgt := 10) C dX6_common_5 (by decide) q3 (fun c5 => ?_) (fun c5 => ?_)
  · have h6 := if_n h4 c5
    clear h4
    refine lv_iload_n C.1 C.2.1 dX6_common_10 rfl (lv_at hl 2 rfl) ?_
    refine x_iconst C dX6_common_11 ?_
    have q8 := (ck_some h6).1
    have h9 := (ck_some h6).2
    clear h6
    refine x_icmp_lt (tgt := 21) C dX6_common_12 (by decide) q8 (by decide) (fun c10 => ?_) (fun c10 => ?_)
    · have h11 := if_p h9 c10
      clear h9
      refine x_bipush C dX6_common_21 (by decide) ?_
      have h13 := Option.some.inj h11
      subst h13
      exact hRet _ _ _ _ Z dX6_common_23
    · have h12 := if_n h9 c10
      clear h9
      refine lv_iload_n C.1 C.2.1 dX6_common_15 rfl (lv_at hl 2 rfl) ?_
      refine x_bipush C dX6_common_16 (by decide) ?_
      refine x_icmp_le (tgt := 24) C dX6_common_18 (by decide) q8 (by decide) (fun c14 => ?_) (fun c14 => ?_)
      · have h15 := if_n h12 c14
        clear h12
        refine lv_aload_n C.1 C.2.1 dX6_common_24 rfl (lv_at hl 0 rfl) ?_
        obtain ⟨r17, hr17, h18⟩ := bd_some h15
        clear h15
        refine x_callV_v_id (As := []) (rest := []) (q0 := 0) C Z (k_X6_showClasses l g n aF aH aP aT aC aK aB aQ aU aV aS aR rr sF sH sP sT sC sK sB sQ sU sV sS sR r17 hr17) gX6_common_X6_showClasses yk_X6_showClasses ⟨Nat.le_of_ble_eq_true rfl, Nat.le_of_ble_eq_true rfl⟩ rfl rfl ⟨Nat.zero_le _, Nat.zero_le _⟩ hl.1 rfl (Nat.le_of_ble_eq_true rfl) rfl dX6_common_25 (fun H locs Z => ?_)
        refine lv_aload_n C.1 C.2.1 dX6_common_28 rfl (lv_at hl 0 rfl) ?_
        refine x_get C Z 0 rfl rfl i_X6_X6_common (k := 3) (by decide) (List.mem_of_getElem? (i := 1) rfl) rfl dX6_common_29 ?_
        refine lv_aload_n C.1 C.2.1 dX6_common_32 rfl (lv_at hl 0 rfl) ?_
        refine x_get C Z 0 rfl rfl i_X6_X6_common (k := 2) (by decide) (List.mem_of_getElem? (i := 2) rfl) rfl dX6_common_33 ?_
        refine lv_iload_n C.1 C.2.1 dX6_common_36 rfl (lv_at hl 1 rfl) ?_
        refine lv_iload_n C.1 C.2.1 dX6_common_37 rfl (lv_at hl 2 rfl) ?_
        obtain ⟨r19, hr19, h20⟩ := bd_some h18
        clear h18
        refine x_callV_i_P (As := [.ref (aT 0), .int (iI v1), .int (iI v2)]) (rest := []) (q0 := 0) (X2 := (wF g aF (aH 0) (aP 0) (aT 0) (aC 0) (aB 0) (aQ 0) (aU 0) (aV 0) (aS 0) (aR 0) sF ++ (wH g aH sH ++ (wP g aP sP ++ (wT g aT r17.1 ++ (wC g aC (aK 0) rr r17.2.1 ++ (wS g aK r17.2.2 ++ (wB g aB sB ++ (wT g aQ sQ ++ (wT g aU sU ++ (wT g aV sV ++ (wS g aS sS ++ wS g aR sR)))))))))))) C Z fr_FHPTCKBQUVSR_4_5_3 (k_X1_longestShared l g n aC aK aT rr r17.2.1 r17.2.2 r17.1 v1 v2 r19 hr19) gX6_common_X1_longestShared yk_X1_longestShared ⟨Nat.le_of_ble_eq_true rfl, Nat.le_of_ble_eq_true rfl⟩ rfl rfl ⟨Nat.zero_le _, Nat.zero_le _⟩ hl.1 rfl (Nat.le_of_ble_eq_true rfl) rfl dX6_common_38 (fun H locs Z => ?_)
        refine lv_istore_n (lv' := [(3, .int (iI r19)), (0, .ref (aF 0)), (1, .int (iI v1)), (2, .int (iI v2))]) C.1 C.2.1 dX6_common_41 rfl hl (by decide) rfl (fun ls hl => ?_)
        refine lv_iload_n C.1 C.2.1 dX6_common_42 rfl (lv_at hl 0 rfl) ?_
        refine x_bipush C dX6_common_43 (by decide) ?_
        have q21 := (ck_some h20).1
        have h22 := (ck_some h20).2
        clear h20
        refine x_icmp_ne (tgt := 53) C dX6_common_45 (by decide) q21 (by decide) (fun c23 => ?_) (fun c23 => ?_)
        · have h24 := if_n h22 c23
          clear h22
          refine lv_aload_n C.1 C.2.1 dX6_common_53 rfl (lv_at hl 1 rfl) ?_
          refine lv_aload_n C.1 C.2.1 dX6_common_54 rfl (lv_at hl 1 rfl) ?_
          refine x_get C Z 0 rfl rfl i_X6_X6_common (k := 3) (by decide) (List.mem_of_getElem? (i := 1) rfl) rfl dX6_common_55 ?_
          refine lv_iload_n C.1 C.2.1 dX6_common_58 rfl (lv_at hl 0 rfl) ?_
          obtain ⟨r26, hr26, h27⟩ := bd_some h24
          clear h24
          refine x_callV_i_P (As := [.int (iI r19)]) (rest := [.ref (aF 0)]) (q0 := 0) (X2 := (wF g aF (aH 0) (aP 0) (aT 0) (aC 0) (aB 0) (aQ 0) (aU 0) (aV 0) (aS 0) (aR 0) sF ++ (wH g aH sH ++ (wP g aP sP ++ (wT g aT r17.1 ++ (wC g aC (aK 0) rr r17.2.1 ++ (wS g aK r17.2.2 ++ (wB g aB sB ++ (wT g aQ sQ ++ (wT g aU sU ++ (wT g aV sV ++ (wS g aS sS ++ wS g aR sR)))))))))))) C Z fr_FHPTCKBQUVSR_4_5 (k_X1_longestStart l g n aC aK rr r17.2.1 r17.2.2 r19 r26 hr26) gX6_common_X1_longestStart yk_X1_longestStart ⟨Nat.le_of_ble_eq_true rfl, Nat.le_of_ble_eq_true rfl⟩ rfl rfl ⟨Nat.zero_le _, Nat.zero_le _⟩ hl.1 rfl (Nat.le_of_ble_eq_true rfl) rfl dX6_common_59 (fun H locs Z => ?_)
          refine lv_aload_n C.1 C.2.1 dX6_common_62 rfl (lv_at hl 1 rfl) ?_
          refine x_get C Z 0 rfl rfl i_X6_X6_common (k := 3) (by decide) (List.mem_of_getElem? (i := 1) rfl) rfl dX6_common_63 ?_
          refine lv_iload_n C.1 C.2.1 dX6_common_66 rfl (lv_at hl 0 rfl) ?_
          obtain ⟨r28, hr28, h29⟩ := bd_some h27
          clear h27
          refine x_callV_i_P (As := [.int (iI r19)]) (rest := [.int (iI r26), .ref (aF 0)]) (q0 := 0) (X2 := (wF g aF (aH 0) (aP 0) (aT 0) (aC 0) (aB 0) (aQ 0) (aU 0) (aV 0) (aS 0) (aR 0) sF ++ (wH g aH sH ++ (wP g aP sP ++ (wT g aT r17.1 ++ (wC g aC (aK 0) rr r17.2.1 ++ (wS g aK r17.2.2 ++ (wB g aB sB ++ (wT g aQ sQ ++ (wT g aU sU ++ (wT g aV sV ++ (wS g aS sS ++ wS g aR sR)))))))))))) C Z fr_FHPTCKBQUVSR_4_5 (k_X1_longestIn l g n aC aK rr r17.2.1 r17.2.2 r19 r28 hr28) gX6_common_X1_longestIn yk_X1_longestIn ⟨Nat.le_of_ble_eq_true rfl, Nat.le_of_ble_eq_true rfl⟩ rfl rfl ⟨Nat.zero_le _, Nat.zero_le _⟩ hl.1 rfl (Nat.le_of_ble_eq_true rfl) rfl dX6_common_67 (fun H locs Z => ?_)
          obtain ⟨r30, hr30, h31⟩ := bd_some h29
          clear h29
          refine x_callV_i_id (As := [.int (iI r26), .int (iI r28)]) (rest := []) (q0 := 0) C Z (k_X6_write l g n aF aH aP aT aC aK aB aQ aU aV aS aR rr sF sH sP r17.1 r17.2.1 r17.2.2 sB sQ sU sV sS sR r26 r28 r30 hr30) gX6_common_X6_write yk_X6_write ⟨Nat.le_of_ble_eq_true rfl, Nat.le_of_ble_eq_true rfl⟩ rfl rfl ⟨Nat.zero_le _, Nat.zero_le _⟩ hl.1 rfl (Nat.le_of_ble_eq_true rfl) rfl dX6_common_70 (fun H locs Z => ?_)
          have h32 := Option.some.inj h31
          subst h32
          exact hRet _ _ _ _ Z dX6_common_73
        · have h25 := if_p h22 c23
          clear h22
          refine x_bipush C dX6_common_48 (by decide) ?_
          refine lv_goto (tgt := 73) C.1 C.2.1 dX6_common_50 (by decide) ?_
          have h33 := Option.some.inj h25
          subst h33
          exact hRet _ _ _ _ Z dX6_common_73
      · have h16 := if_p h12 c14
        clear h12
        refine x_bipush C dX6_common_21 (by decide) ?_
        have h34 := Option.some.inj h16
        subst h34
        exact hRet _ _ _ _ Z dX6_common_23
  · have h7 := if_p h4 c5
    clear h4
    refine x_iconst C dX6_common_8 ?_
    have h35 := Option.some.inj h7
    subst h35
    exact hRet _ _ _ _ Z dX6_common_9
abbrev rmX1_shortestStart : Room := { frames := 2, cells := 0, slots := 0, locals := 42 }
theorem yk_X1_shortestStart : xY yX1_shortestStart RX1 cX1_shortestStart 2 (some .int) wsX1_shortestStart rmX1_shortestStart 1 := ⟨⟨_, rfl⟩, by decide +kernel, rfl, rfl⟩
theorem i_X1_X1_shortestStart : ∀ w ∈ u_ws RX1 TX1 13, w ∈ wsX1_shortestStart := fun _ h => List.mem_cons_of_mem _ (List.mem_append_right _ h)
set_option maxHeartbeats 4000000 in
set_option maxRecDepth 100000 in
theorem k_X1_shortestStart (l : Launch) (g : xG) (n : Nat) (aC : Nat → Nat) (aK : Nat → Nat) (rr : Nat → Nat) (sC : ClsS) (sK : SwpS) (v1 : Int) (r : Int) (hf : p_X1_shortestStart sC v1 = some r) : xMi l yX1_shortestStart wsX1_shortestStart rmX1_shortestStart g [.ref (aC 0), .int (iI v1)] ((wC g aC (aK 0) rr sC ++ wS g aK sK) ++ wR g rr sC.classOf) ((wC g aC (aK 0) rr sC ++ wS g aK sK) ++ wR g rr sC.classOf) r := by
  refine x_ofW_i (own := RX1) (by decide) rfl rfl (Nat.le_of_ble_eq_true rfl) ?_
  intro p e s m args below meth c ls A QQ C hRet Z hl
  have hl : lv_has ls 2 [(0, .ref (aC 0)), (1, .int (iI v1))] := hl
  unfold p_X1_shortestStart at hf
  refine lv_aload_n C.1 C.2.1 dX1_shortestStart_0 rfl (lv_at hl 0 rfl) ?_
  refine lv_iload_n C.1 C.2.1 dX1_shortestStart_1 rfl (lv_at hl 1 rfl) ?_
  obtain ⟨r1, hr1, h2⟩ := bd_some hf
  clear hf
  refine x_callV_i_id (As := [.int (iI v1)]) (rest := []) (q0 := 0) C Z (k_X1_firstEndOf l g n aC aK rr sC sK v1 r1 hr1) gX1_shortestStart_X1_firstEndOf yk_X1_firstEndOf ⟨Nat.le_of_ble_eq_true rfl, Nat.le_of_ble_eq_true rfl⟩ rfl rfl ⟨Nat.zero_le _, Nat.zero_le _⟩ hl.1 rfl (Nat.le_of_ble_eq_true rfl) rfl dX1_shortestStart_2 (fun H locs Z => ?_)
  refine lv_aload_n C.1 C.2.1 dX1_shortestStart_5 rfl (lv_at hl 0 rfl) ?_
  refine lv_iload_n C.1 C.2.1 dX1_shortestStart_6 rfl (lv_at hl 1 rfl) ?_
  obtain ⟨r3, hr3, h4⟩ := bd_some h2
  clear h2
  refine x_callV_i_id (As := [.int (iI v1)]) (rest := [.int (iI r1)]) (q0 := 0) C Z (k_X1_shortestIn l g n aC aK rr sC sK v1 r3 hr3) gX1_shortestStart_X1_shortestIn yk_X1_shortestIn ⟨Nat.le_of_ble_eq_true rfl, Nat.le_of_ble_eq_true rfl⟩ rfl rfl ⟨Nat.zero_le _, Nat.zero_le _⟩ hl.1 rfl (Nat.le_of_ble_eq_true rfl) rfl dX1_shortestStart_7 (fun H locs Z => ?_)
  refine x_isub C dX1_shortestStart_10 ?_
  refine x_iconst C dX1_shortestStart_11 ?_
  refine x_iadd C dX1_shortestStart_12 ?_
  have h5 := Option.some.inj h4
  subst h5
  exact hRet _ _ _ _ Z dX1_shortestStart_13
abbrev rmX1_shortestOnlyIn : Room := { frames := 4, cells := 0, slots := 0, locals := 90 }
theorem yk_X1_shortestOnlyIn : xY yX1_shortestOnlyIn RX1 cX1_shortestOnlyIn 6 (some .int) wsX1_shortestOnlyIn rmX1_shortestOnlyIn 2 := ⟨⟨_, rfl⟩, by decide +kernel, rfl, rfl⟩
theorem i_X1_X1_shortestOnlyIn : ∀ w ∈ u_ws RX1 TX1 13, w ∈ wsX1_shortestOnlyIn := fun _ h => List.mem_cons_of_mem _ (List.mem_append_left _ (List.mem_append_right _ h))
theorem i_X5_X1_shortestOnlyIn : ∀ w ∈ u_ws RX5 TX5 8, w ∈ wsX1_shortestOnlyIn := fun _ h => List.mem_cons_of_mem _ (List.mem_append_right _ h)
set_option maxHeartbeats 4000000 in
set_option maxRecDepth 100000 in
theorem k_X1_shortestOnlyIn (l : Launch) (g : xG) (n : Nat) (aC : Nat → Nat) (aK : Nat → Nat) (aT : Nat → Nat) (rr : Nat → Nat) (sC : ClsS) (sK : SwpS) (sT : TxtS) (v2 : Int) (r : Int) (hf : p_X1_shortestOnlyIn n sC sT v2 = some r) : xMi l yX1_shortestOnlyIn wsX1_shortestOnlyIn rmX1_shortestOnlyIn g [.ref (aC 0), .ref (aT 0), .int (iI v2)] ((wC g aC (aK 0) rr sC ++ (wS g aK sK ++ wT g aT sT)) ++ wR g rr sC.classOf) ((wC g aC (aK 0) rr sC ++ (wS g aK sK ++ wT g aT sT)) ++ wR g rr sC.classOf) r := by
  refine x_ofW_i (own := RX1) (by decide) rfl rfl (Nat.le_of_ble_eq_true rfl) ?_
  intro p e s m args below meth c ls A QQ C hRet Z hl
  have hl : lv_has ls 6 [(0, .ref (aC 0)), (1, .ref (aT 0)), (2, .int (iI v2))] := hl
  unfold p_X1_shortestOnlyIn at hf
  refine x_bipush C dX1_shortestOnlyIn_0 (by decide) ?_
  refine lv_istore_n (lv' := [(3, .int (iI (-6))), (0, .ref (aC 0)), (1, .ref (aT 0)), (2, .int (iI v2))]) C.1 C.2.1 dX1_shortestOnlyIn_2 rfl hl (by decide) rfl (fun ls hl => ?_)
  refine x_iconst C dX1_shortestOnlyIn_3 ?_
  refine lv_istore (lv' := [(4, .int (iI 0)), (3, .int (iI (-6))), (0, .ref (aC 0)), (1, .ref (aT 0)), (2, .int (iI v2))]) C.1 C.2.1 dX1_shortestOnlyIn_4 hl (by decide) rfl (fun ls hl => ?_)
  obtain ⟨ex6, hl6, h92⟩ := bd_some hf
  clear hf
  have hK6 : ∀ (H : Heap) (locs : List Loc) (ls : Array Slot), xSt g A s ((wC g aC (aK 0) rr sC ++ (wS g aK sK ++ wT g aT sT)) ++ wR g rr sC.classOf) H locs → lv_has ls 6 [(3, .int (iI ex6))] → W p l e rmX1_shortestOnlyIn s m args below meth c H locs 0 0 QQ (F0 m 89 ls []) := by
    intro H locs ls Z hl
    have h93 := h92
    clear h92
    refine lv_iload_n C.1 C.2.1 dX1_shortestOnlyIn_89 rfl (lv_at hl 0 rfl) ?_
    have h94 := Option.some.inj h93
    subst h94
    exact hRet _ _ _ _ Z dX1_shortestOnlyIn_90
  have hL6 : ∀ (k6 : Nat) (z6 : Int × Int) (H : Heap) (locs : List Loc) (ls : Array Slot), lp (p_X1_shortestOnlyIn_b6 n sC sT v2) k6 z6 = some ex6 → xSt g A s ((wC g aC (aK 0) rr sC ++ (wS g aK sK ++ wT g aT sT)) ++ wR g rr sC.classOf) H locs → lv_has ls 6 [(0, .ref (aC 0)), (1, .ref (aT 0)), (2, .int (iI v2)), (3, .int (iI z6.1)), (4, .int (iI z6.2))] → W p l e rmX1_shortestOnlyIn s m args below meth c H locs 0 0 QQ (F0 m 6 ls []) := by
    intro k6
    induction k6 with
    | zero => intro z6 H locs ls h; exact (lp_0 h).elim
    | succ k6 ih6 =>
      intro z6 H locs ls h Z hl
      obtain ⟨x6, hb6, hx6⟩ := lp_s h
      clear h
      unfold p_X1_shortestOnlyIn_b6 at hb6
      have hJ50 : ∀ (v3_50 : Int) (v4_50 : Int) (t0_50 : Int) (H : Heap) (locs : List Loc) (ls : Array Slot), p_X1_shortestOnlyIn_j50 n sC sT v3_50 v4_50 t0_50 = some x6 → xSt g A s ((wC g aC (aK 0) rr sC ++ (wS g aK sK ++ wT g aT sT)) ++ wR g rr sC.classOf) H locs → lv_has ls 6 [(0, .ref (aC 0)), (1, .ref (aT 0)), (2, .int (iI v2)), (3, .int (iI v3_50)), (4, .int (iI v4_50))] → W p l e rmX1_shortestOnlyIn s m args below meth c H locs 0 0 QQ (F0 m 50 ls [.int (iI t0_50)]) := by
        intro v3_50 v4_50 t0_50 H locs ls hj50 Z hl
        unfold p_X1_shortestOnlyIn_j50 at hj50
        refine lv_istore (lv' := [(5, .int (iI t0_50)), (0, .ref (aC 0)), (1, .ref (aT 0)), (2, .int (iI v2)), (3, .int (iI v3_50)), (4, .int (iI v4_50))]) C.1 C.2.1 dX1_shortestOnlyIn_50 hl (by decide) rfl (fun ls hl => ?_)
        refine lv_iload C.1 C.2.1 dX1_shortestOnlyIn_52 (lv_at hl 0 rfl) ?_
        have q47 := (ck_some hj50).1
        have h48 := (ck_some hj50).2
        clear hj50
        refine x_if_gt (tgt := 80) C dX1_shortestOnlyIn_54 (by decide) q47 (fun c49 => ?_) (fun c49 => ?_)
        · have h50 := if_p h48 c49
          clear h48
          refine lv_iload C.1 C.2.1 dX1_shortestOnlyIn_80 (lv_at hl 5 rfl) ?_
          refine lv_istore_n (lv' := [(3, .int (iI v4_50)), (5, .int (iI t0_50)), (0, .ref (aC 0)), (1, .ref (aT 0)), (2, .int (iI v2)), (4, .int (iI v4_50))]) C.1 C.2.1 dX1_shortestOnlyIn_82 rfl hl (by decide) rfl (fun ls hl => ?_)
          refine x_iinc (lv' := [(4, .int (iI (v4_50 + 1))), (3, .int (iI v4_50)), (5, .int (iI t0_50)), (0, .ref (aC 0)), (1, .ref (aT 0)), (2, .int (iI v2))]) C dX1_shortestOnlyIn_83 hl (k := 5) rfl (by decide) rfl (fun ls hl => ?_)
          refine lv_goto (tgt := 6) C.1 C.2.1 dX1_shortestOnlyIn_86 (by decide) ?_
          cases h50
          exact ih6 (v4_50, v4_50 + 1) _ _ _ (lp_L2 hx6) Z (lv_sub hl [3, 4, 5, 1, 0] rfl)
        · have h51 := if_n h48 c49
          clear h48
          refine lv_iload C.1 C.2.1 dX1_shortestOnlyIn_57 (lv_at hl 0 rfl) ?_
          refine x_if_ne (tgt := 83) C dX1_shortestOnlyIn_59 (by decide) q47 (fun c52 => ?_) (fun c52 => ?_)
          · have h53 := if_n h51 c52
            clear h51
            refine x_iinc (lv' := [(4, .int (iI (v4_50 + 1))), (5, .int (iI t0_50)), (0, .ref (aC 0)), (1, .ref (aT 0)), (2, .int (iI v2)), (3, .int (iI v3_50))]) C dX1_shortestOnlyIn_83 hl (k := 5) rfl (by decide) rfl (fun ls hl => ?_)
            refine lv_goto (tgt := 6) C.1 C.2.1 dX1_shortestOnlyIn_86 (by decide) ?_
            cases h53
            exact ih6 (v3_50, v4_50 + 1) _ _ _ (lp_L2 hx6) Z (lv_sub hl [2, 3, 4, 5, 0] rfl)
          · have h54 := if_p h51 c52
            clear h51
            refine lv_aload_n C.1 C.2.1 dX1_shortestOnlyIn_62 rfl (lv_at hl 2 rfl) ?_
            refine lv_aload_n C.1 C.2.1 dX1_shortestOnlyIn_63 rfl (lv_at hl 1 rfl) ?_
            refine lv_iload C.1 C.2.1 dX1_shortestOnlyIn_64 (lv_at hl 5 rfl) ?_
            obtain ⟨r55, hr55, h56⟩ := bd_some h54
            clear h54
            refine x_callV_i_P (As := [.int (iI v4_50)]) (rest := [.ref (aT 0)]) (q0 := 0) (X2 := (wC g aC (aK 0) rr sC ++ (wS g aK sK ++ wT g aT sT))) C Z fr_CKT_0_1 (k_X1_shortestStart l g n aC aK rr sC sK v4_50 r55 hr55) gX1_shortestOnlyIn_X1_shortestStart yk_X1_shortestStart ⟨Nat.le_of_ble_eq_true rfl, Nat.le_of_ble_eq_true rfl⟩ rfl rfl ⟨Nat.zero_le _, Nat.zero_le _⟩ hl.1 rfl (Nat.le_of_ble_eq_true rfl) rfl dX1_shortestOnlyIn_66 (fun H locs Z => ?_)
            refine lv_aload_n C.1 C.2.1 dX1_shortestOnlyIn_69 rfl (lv_at hl 1 rfl) ?_
            refine lv_iload_n C.1 C.2.1 dX1_shortestOnlyIn_70 rfl (lv_at hl 4 rfl) ?_
            obtain ⟨r57, hr57, h58⟩ := bd_some h56
            clear h56
            refine x_callV_i_P (As := [.int (iI v3_50)]) (rest := [.int (iI r55), .ref (aT 0)]) (q0 := 0) (X2 := (wC g aC (aK 0) rr sC ++ (wS g aK sK ++ wT g aT sT))) C Z fr_CKT_0_1 (k_X1_shortestStart l g n aC aK rr sC sK v3_50 r57 hr57) gX1_shortestOnlyIn_X1_shortestStart yk_X1_shortestStart ⟨Nat.le_of_ble_eq_true rfl, Nat.le_of_ble_eq_true rfl⟩ rfl rfl ⟨Nat.zero_le _, Nat.zero_le _⟩ hl.1 rfl (Nat.le_of_ble_eq_true rfl) rfl dX1_shortestOnlyIn_71 (fun H locs Z => ?_)
            obtain ⟨r59, hr59, h60⟩ := bd_some h58
            clear h58
            refine x_callV_i_Q (As := [.int (iI r55), .int (iI r57)]) (rest := []) (q0 := 0) (X2 := (wC g aC (aK 0) rr sC ++ (wS g aK sK ++ wT g aT sT))) C Z fr_CKT_2 (k_X5_comesBefore l g n aT sT r55 r57 r59 hr59) gX1_shortestOnlyIn_X5_comesBefore yk_X5_comesBefore ⟨Nat.le_of_ble_eq_true rfl, Nat.le_of_ble_eq_true rfl⟩ rfl rfl ⟨Nat.zero_le _, Nat.zero_le _⟩ hl.1 rfl (Nat.le_of_ble_eq_true rfl) rfl dX1_shortestOnlyIn_74 (fun H locs Z => ?_)
            have q61 := (ck_some h60).1
            have h62 := (ck_some h60).2
            clear h60
            refine x_if_eq (tgt := 83) C dX1_shortestOnlyIn_77 (by decide) q61 (fun c63 => ?_) (fun c63 => ?_)
            · have h64 := if_p h62 c63
              clear h62
              refine x_iinc (lv' := [(4, .int (iI (v4_50 + 1))), (5, .int (iI t0_50)), (0, .ref (aC 0)), (1, .ref (aT 0)), (2, .int (iI v2)), (3, .int (iI v3_50))]) C dX1_shortestOnlyIn_83 hl (k := 5) rfl (by decide) rfl (fun ls hl => ?_)
              refine lv_goto (tgt := 6) C.1 C.2.1 dX1_shortestOnlyIn_86 (by decide) ?_
              cases h64
              exact ih6 (v3_50, v4_50 + 1) _ _ _ (lp_L2 hx6) Z (lv_sub hl [2, 3, 4, 5, 0] rfl)
            · have h65 := if_n h62 c63
              clear h62
              refine lv_iload C.1 C.2.1 dX1_shortestOnlyIn_80 (lv_at hl 5 rfl) ?_
              refine lv_istore_n (lv' := [(3, .int (iI v4_50)), (5, .int (iI t0_50)), (0, .ref (aC 0)), (1, .ref (aT 0)), (2, .int (iI v2)), (4, .int (iI v4_50))]) C.1 C.2.1 dX1_shortestOnlyIn_82 rfl hl (by decide) rfl (fun ls hl => ?_)
              refine x_iinc (lv' := [(4, .int (iI (v4_50 + 1))), (3, .int (iI v4_50)), (5, .int (iI t0_50)), (0, .ref (aC 0)), (1, .ref (aT 0)), (2, .int (iI v2))]) C dX1_shortestOnlyIn_83 hl (k := 5) rfl (by decide) rfl (fun ls hl => ?_)
              refine lv_goto (tgt := 6) C.1 C.2.1 dX1_shortestOnlyIn_86 (by decide) ?_
              cases h65
              exact ih6 (v4_50, v4_50 + 1) _ _ _ (lp_L2 hx6) Z (lv_sub hl [3, 4, 5, 1, 0] rfl)
      refine lv_iload C.1 C.2.1 dX1_shortestOnlyIn_6 (lv_at hl 4 rfl) ?_
      refine lv_aload_n C.1 C.2.1 dX1_shortestOnlyIn_8 rfl (lv_at hl 0 rfl) ?_
      refine x_get C Z 0 rfl rfl i_X1_X1_shortestOnlyIn (k := 11) (by decide) (List.mem_of_getElem? (i := 1) rfl) rfl dX1_shortestOnlyIn_9 ?_
      have q66 := (ck_some hb6).1
      have h67 := (ck_some hb6).2
      clear hb6
      have q68 := (ck_some h67).1
      have h69 := (ck_some h67).2
      clear h67
      refine x_icmp_ge (tgt := 89) C dX1_shortestOnlyIn_12 (by decide) q66 q68 (fun c70 => ?_) (fun c70 => ?_)
      · have h71 := if_n h69 c70
        clear h69
        cases h71
        have h73 := lp_R hx6
        subst h73
        exact hK6 _ _ _ Z (lv_sub hl [3] rfl)
      · have h72 := if_p h69 c70
        clear h69
        refine lv_aload_n C.1 C.2.1 dX1_shortestOnlyIn_15 rfl (lv_at hl 0 rfl) ?_
        refine x_get C Z 0 rfl rfl i_X1_X1_shortestOnlyIn (k := 8) (by decide) (List.mem_of_getElem? (i := 2) rfl) rfl dX1_shortestOnlyIn_16 ?_
        refine lv_iload C.1 C.2.1 dX1_shortestOnlyIn_19 (lv_at hl 4 rfl) ?_
        have q74 := (ix_some h72).1
        have h75 := (ix_some h72).2
        clear h72
        refine x_iald C Z 8 rfl (by decide) q74 dX1_shortestOnlyIn_21 ?_
        refine lv_iload_n C.1 C.2.1 dX1_shortestOnlyIn_22 rfl (lv_at hl 2 rfl) ?_
        have q76 := (ck_some h75).1
        have h77 := (ck_some h75).2
        clear h75
        have q78 := (ck_some h77).1
        have h79 := (ck_some h77).2
        clear h77
        refine x_icmp_ne (tgt := 83) C dX1_shortestOnlyIn_23 (by decide) q76 q78 (fun c80 => ?_) (fun c80 => ?_)
        · have h81 := if_n h79 c80
          clear h79
          refine x_iinc (lv' := [(4, .int (iI (z6.2 + 1))), (0, .ref (aC 0)), (1, .ref (aT 0)), (2, .int (iI v2)), (3, .int (iI z6.1))]) C dX1_shortestOnlyIn_83 hl (k := 4) rfl (by decide) rfl (fun ls hl => ?_)
          refine lv_goto (tgt := 6) C.1 C.2.1 dX1_shortestOnlyIn_86 (by decide) ?_
          cases h81
          exact ih6 (z6.1, z6.2 + 1) _ _ _ (lp_L2 hx6) Z (lv_sub hl [1, 2, 3, 4, 0] rfl)
        · have h82 := if_p h79 c80
          clear h79
          refine lv_iload_n C.1 C.2.1 dX1_shortestOnlyIn_26 rfl (lv_at hl 3 rfl) ?_
          refine x_bipush C dX1_shortestOnlyIn_27 (by decide) ?_
          have q83 := (ck_some h82).1
          have h84 := (ck_some h82).2
          clear h82
          refine x_icmp_ne (tgt := 36) C dX1_shortestOnlyIn_29 (by decide) q83 (by decide) (fun c85 => ?_) (fun c85 => ?_)
          · have h86 := if_n h84 c85
            clear h84
            refine lv_aload_n C.1 C.2.1 dX1_shortestOnlyIn_36 rfl (lv_at hl 0 rfl) ?_
            refine x_get C Z 0 rfl rfl i_X1_X1_shortestOnlyIn (k := 5) (by decide) (List.mem_of_getElem? (i := 3) rfl) rfl dX1_shortestOnlyIn_37 ?_
            refine lv_iload_n C.1 C.2.1 dX1_shortestOnlyIn_40 rfl (lv_at hl 3 rfl) ?_
            have q88 := (ix_some h86).1
            have h89 := (ix_some h86).2
            clear h86
            refine x_iald C Z 5 rfl (by decide) q88 dX1_shortestOnlyIn_41 ?_
            refine lv_aload_n C.1 C.2.1 dX1_shortestOnlyIn_42 rfl (lv_at hl 0 rfl) ?_
            refine x_get C Z 0 rfl rfl i_X1_X1_shortestOnlyIn (k := 5) (by decide) (List.mem_of_getElem? (i := 3) rfl) rfl dX1_shortestOnlyIn_43 ?_
            refine lv_iload C.1 C.2.1 dX1_shortestOnlyIn_46 (lv_at hl 4 rfl) ?_
            refine x_iald C Z 5 rfl (by decide) q74 dX1_shortestOnlyIn_48 ?_
            refine x_isub C dX1_shortestOnlyIn_49 ?_
            exact hJ50 z6.1 z6.2 ((sC.shortest z6.1) - (sC.shortest z6.2)) _ _ _ h89 Z (lv_sub hl [0, 1, 2, 3, 4] rfl)
          · have h87 := if_p h84 c85
            clear h84
            refine x_iconst C dX1_shortestOnlyIn_32 ?_
            refine lv_goto (tgt := 50) C.1 C.2.1 dX1_shortestOnlyIn_33 (by decide) ?_
            exact hJ50 z6.1 z6.2 1 _ _ _ h87 Z (lv_sub hl [0, 1, 2, 3, 4] rfl)
  exact hL6 n ((-6), 0) _ _ _ hl6 Z (lv_sub hl [2, 3, 4, 1, 0] rfl)
abbrev rmX6_unique : Room := { frames := 6, cells := 0, slots := 0, locals := 139 }
theorem yk_X6_unique : xY yX6_unique RX6 cX6_unique 3 (some .int) wsX6_unique rmX6_unique 1 := ⟨⟨_, rfl⟩, by decide +kernel, rfl, rfl⟩
theorem i_X1_X6_unique : ∀ w ∈ u_ws RX1 TX1 13, w ∈ wsX6_unique := fun _ h => List.mem_cons_of_mem _ (List.mem_append_left _ (List.mem_append_left _ (List.mem_append_right _ h)))
theorem i_X2_X6_unique : ∀ w ∈ u_ws RX2 TX2 5, w ∈ wsX6_unique := fun _ h => List.mem_cons_of_mem _ (List.mem_append_left _ (List.mem_append_left _ (List.mem_append_left _ (List.mem_append_left _ (List.mem_append_right _ h)))))
theorem i_X3_X6_unique : ∀ w ∈ u_ws RX3 TX3 2, w ∈ wsX6_unique := fun _ h => List.mem_cons_of_mem _ (List.mem_append_right _ h)
theorem i_X4_X6_unique : ∀ w ∈ u_ws RX4 TX4 1, w ∈ wsX6_unique := fun _ h => List.mem_cons_of_mem _ (List.mem_append_left _ (List.mem_append_right _ h))
theorem i_X5_X6_unique : ∀ w ∈ u_ws RX5 TX5 8, w ∈ wsX6_unique := fun _ h => List.mem_cons_of_mem _ (List.mem_append_left _ (List.mem_append_left _ (List.mem_append_left _ (List.mem_append_right _ h))))
theorem i_X6_X6_unique : ∀ w ∈ u_ws RX6 TX6 11, w ∈ wsX6_unique := fun _ h => List.mem_cons_of_mem _ (List.mem_append_left _ (List.mem_append_left _ (List.mem_append_left _ (List.mem_append_left _ (List.mem_append_left _ (List.mem_append_right _ h))))))
set_option maxHeartbeats 4000000 in
set_option maxRecDepth 100000 in
theorem k_X6_unique (l : Launch) (g : xG) (n : Nat) (aF : Nat → Nat) (aH : Nat → Nat) (aP : Nat → Nat) (aT : Nat → Nat) (aC : Nat → Nat) (aK : Nat → Nat) (aB : Nat → Nat) (aQ : Nat → Nat) (aU : Nat → Nat) (aV : Nat → Nat) (aS : Nat → Nat) (aR : Nat → Nat) (rr : Nat → Nat) (sF : Int) (sH : HisS) (sP : PadS) (sT : TxtS) (sC : ClsS) (sK : SwpS) (sB : BegS) (sQ : TxtS) (sU : TxtS) (sV : TxtS) (sS : SwpS) (sR : SwpS) (v1 : Int) (r : Int × PadS × TxtS × ClsS × SwpS) (hf : p_X6_unique n sF sH sP sT sC sK v1 = some r) : xMi l yX6_unique wsX6_unique rmX6_unique g [.ref (aF 0), .int (iI v1)] ((wF g aF (aH 0) (aP 0) (aT 0) (aC 0) (aB 0) (aQ 0) (aU 0) (aV 0) (aS 0) (aR 0) sF ++ (wH g aH sH ++ (wP g aP sP ++ (wT g aT sT ++ (wC g aC (aK 0) rr sC ++ (wS g aK sK ++ (wB g aB sB ++ (wT g aQ sQ ++ (wT g aU sU ++ (wT g aV sV ++ (wS g aS sS ++ wS g aR sR))))))))))) ++ wR g rr sC.classOf) ((wF g aF (aH 0) (aP 0) (aT 0) (aC 0) (aB 0) (aQ 0) (aU 0) (aV 0) (aS 0) (aR 0) sF ++ (wH g aH sH ++ (wP g aP r.2.1 ++ (wT g aT r.2.2.1 ++ (wC g aC (aK 0) rr r.2.2.2.1 ++ (wS g aK r.2.2.2.2 ++ (wB g aB sB ++ (wT g aQ sQ ++ (wT g aU sU ++ (wT g aV sV ++ (wS g aS sS ++ wS g aR sR))))))))))) ++ wR g rr r.2.2.2.1.classOf) r.1 := by
  refine x_ofW_i (own := RX6) (by decide) rfl rfl (Nat.le_of_ble_eq_true rfl) ?_
  intro p e s m args below meth c ls A QQ C hRet Z hl
  have hl : lv_has ls 3 [(0, .ref (aF 0)), (1, .int (iI v1))] := hl
  unfold p_X6_unique at hf
  refine lv_aload_n C.1 C.2.1 dX6_unique_0 rfl (lv_at hl 0 rfl) ?_
  refine lv_iload_n C.1 C.2.1 dX6_unique_1 rfl (lv_at hl 1 rfl) ?_
  obtain ⟨r1, hr1, h2⟩ := bd_some hf
  clear hf
  refine x_callV_i_id (As := [.int (iI v1)]) (rest := []) (q0 := 0) C Z (k_X6_isWordSet l g n aF aH aP aT aC aK aB aQ aU aV aS aR rr sF sH sP sT sC sK sB sQ sU sV sS sR v1 r1 hr1) gX6_unique_X6_isWordSet yk_X6_isWordSet ⟨Nat.le_of_ble_eq_true rfl, Nat.le_of_ble_eq_true rfl⟩ rfl rfl ⟨Nat.zero_le _, Nat.zero_le _⟩ hl.1 rfl (Nat.le_of_ble_eq_true rfl) rfl dX6_unique_2 (fun H locs Z => ?_)
  have q3 := (ck_some h2).1
  have h4 := (ck_some h2).2
  clear h2
  refine x_if_ne (tgt := 10) C dX6_unique_5 (by decide) q3 (fun c5 => ?_) (fun c5 => ?_)
  · have h6 := if_n h4 c5
    clear h4
    refine lv_iload_n C.1 C.2.1 dX6_unique_10 rfl (lv_at hl 1 rfl) ?_
    have q8 := (ck_some h6).1
    have h9 := (ck_some h6).2
    clear h6
    refine x_if_ne (tgt := 17) C dX6_unique_11 (by decide) q8 (fun c10 => ?_) (fun c10 => ?_)
    · have h11 := if_n h9 c10
      clear h9
      refine lv_aload_n C.1 C.2.1 dX6_unique_17 rfl (lv_at hl 0 rfl) ?_
      obtain ⟨r13, hr13, h14⟩ := bd_some h11
      clear h11
      refine x_callV_v_id (As := []) (rest := []) (q0 := 0) C Z (k_X6_showClasses l g n aF aH aP aT aC aK aB aQ aU aV aS aR rr sF sH sP sT sC sK sB sQ sU sV sS sR r13 hr13) gX6_unique_X6_showClasses yk_X6_showClasses ⟨Nat.le_of_ble_eq_true rfl, Nat.le_of_ble_eq_true rfl⟩ rfl rfl ⟨Nat.zero_le _, Nat.zero_le _⟩ hl.1 rfl (Nat.le_of_ble_eq_true rfl) rfl dX6_unique_18 (fun H locs Z => ?_)
      refine lv_aload_n C.1 C.2.1 dX6_unique_21 rfl (lv_at hl 0 rfl) ?_
      refine x_get C Z 0 rfl rfl i_X6_X6_unique (k := 3) (by decide) (List.mem_of_getElem? (i := 1) rfl) rfl dX6_unique_22 ?_
      refine lv_aload_n C.1 C.2.1 dX6_unique_25 rfl (lv_at hl 0 rfl) ?_
      refine x_get C Z 0 rfl rfl i_X6_X6_unique (k := 2) (by decide) (List.mem_of_getElem? (i := 2) rfl) rfl dX6_unique_26 ?_
      refine lv_iload_n C.1 C.2.1 dX6_unique_29 rfl (lv_at hl 1 rfl) ?_
      obtain ⟨r15, hr15, h16⟩ := bd_some h14
      clear h14
      refine x_callV_i_P (As := [.ref (aT 0), .int (iI v1)]) (rest := []) (q0 := 0) (X2 := (wF g aF (aH 0) (aP 0) (aT 0) (aC 0) (aB 0) (aQ 0) (aU 0) (aV 0) (aS 0) (aR 0) sF ++ (wH g aH sH ++ (wP g aP sP ++ (wT g aT r13.1 ++ (wC g aC (aK 0) rr r13.2.1 ++ (wS g aK r13.2.2 ++ (wB g aB sB ++ (wT g aQ sQ ++ (wT g aU sU ++ (wT g aV sV ++ (wS g aS sS ++ wS g aR sR)))))))))))) C Z fr_FHPTCKBQUVSR_4_5_3 (k_X1_shortestOnlyIn l g n aC aK aT rr r13.2.1 r13.2.2 r13.1 v1 r15 hr15) gX6_unique_X1_shortestOnlyIn yk_X1_shortestOnlyIn ⟨Nat.le_of_ble_eq_true rfl, Nat.le_of_ble_eq_true rfl⟩ rfl rfl ⟨Nat.zero_le _, Nat.zero_le _⟩ hl.1 rfl (Nat.le_of_ble_eq_true rfl) rfl dX6_unique_30 (fun H locs Z => ?_)
      refine lv_istore_n (lv' := [(2, .int (iI r15)), (0, .ref (aF 0)), (1, .int (iI v1))]) C.1 C.2.1 dX6_unique_33 rfl hl (by decide) rfl (fun ls hl => ?_)
      refine lv_iload_n C.1 C.2.1 dX6_unique_34 rfl (lv_at hl 0 rfl) ?_
      refine x_bipush C dX6_unique_35 (by decide) ?_
      have q17 := (ck_some h16).1
      have h18 := (ck_some h16).2
      clear h16
      refine x_icmp_ne (tgt := 45) C dX6_unique_37 (by decide) q17 (by decide) (fun c19 => ?_) (fun c19 => ?_)
      · have h20 := if_n h18 c19
        clear h18
        refine lv_aload_n C.1 C.2.1 dX6_unique_45 rfl (lv_at hl 1 rfl) ?_
        refine lv_aload_n C.1 C.2.1 dX6_unique_46 rfl (lv_at hl 1 rfl) ?_
        refine x_get C Z 0 rfl rfl i_X6_X6_unique (k := 3) (by decide) (List.mem_of_getElem? (i := 1) rfl) rfl dX6_unique_47 ?_
        refine lv_iload_n C.1 C.2.1 dX6_unique_50 rfl (lv_at hl 0 rfl) ?_
        obtain ⟨r22, hr22, h23⟩ := bd_some h20
        clear h20
        refine x_callV_i_P (As := [.int (iI r15)]) (rest := [.ref (aF 0)]) (q0 := 0) (X2 := (wF g aF (aH 0) (aP 0) (aT 0) (aC 0) (aB 0) (aQ 0) (aU 0) (aV 0) (aS 0) (aR 0) sF ++ (wH g aH sH ++ (wP g aP sP ++ (wT g aT r13.1 ++ (wC g aC (aK 0) rr r13.2.1 ++ (wS g aK r13.2.2 ++ (wB g aB sB ++ (wT g aQ sQ ++ (wT g aU sU ++ (wT g aV sV ++ (wS g aS sS ++ wS g aR sR)))))))))))) C Z fr_FHPTCKBQUVSR_4_5 (k_X1_shortestStart l g n aC aK rr r13.2.1 r13.2.2 r15 r22 hr22) gX6_unique_X1_shortestStart yk_X1_shortestStart ⟨Nat.le_of_ble_eq_true rfl, Nat.le_of_ble_eq_true rfl⟩ rfl rfl ⟨Nat.zero_le _, Nat.zero_le _⟩ hl.1 rfl (Nat.le_of_ble_eq_true rfl) rfl dX6_unique_51 (fun H locs Z => ?_)
        refine lv_aload_n C.1 C.2.1 dX6_unique_54 rfl (lv_at hl 1 rfl) ?_
        refine x_get C Z 0 rfl rfl i_X6_X6_unique (k := 3) (by decide) (List.mem_of_getElem? (i := 1) rfl) rfl dX6_unique_55 ?_
        refine lv_iload_n C.1 C.2.1 dX6_unique_58 rfl (lv_at hl 0 rfl) ?_
        obtain ⟨r24, hr24, h25⟩ := bd_some h23
        clear h23
        refine x_callV_i_P (As := [.int (iI r15)]) (rest := [.int (iI r22), .ref (aF 0)]) (q0 := 0) (X2 := (wF g aF (aH 0) (aP 0) (aT 0) (aC 0) (aB 0) (aQ 0) (aU 0) (aV 0) (aS 0) (aR 0) sF ++ (wH g aH sH ++ (wP g aP sP ++ (wT g aT r13.1 ++ (wC g aC (aK 0) rr r13.2.1 ++ (wS g aK r13.2.2 ++ (wB g aB sB ++ (wT g aQ sQ ++ (wT g aU sU ++ (wT g aV sV ++ (wS g aS sS ++ wS g aR sR)))))))))))) C Z fr_FHPTCKBQUVSR_4_5 (k_X1_shortestIn l g n aC aK rr r13.2.1 r13.2.2 r15 r24 hr24) gX6_unique_X1_shortestIn yk_X1_shortestIn ⟨Nat.le_of_ble_eq_true rfl, Nat.le_of_ble_eq_true rfl⟩ rfl rfl ⟨Nat.zero_le _, Nat.zero_le _⟩ hl.1 rfl (Nat.le_of_ble_eq_true rfl) rfl dX6_unique_59 (fun H locs Z => ?_)
        obtain ⟨r26, hr26, h27⟩ := bd_some h25
        clear h25
        refine x_callV_i_id (As := [.int (iI r22), .int (iI r24)]) (rest := []) (q0 := 0) C Z (k_X6_write l g n aF aH aP aT aC aK aB aQ aU aV aS aR rr sF sH sP r13.1 r13.2.1 r13.2.2 sB sQ sU sV sS sR r22 r24 r26 hr26) gX6_unique_X6_write yk_X6_write ⟨Nat.le_of_ble_eq_true rfl, Nat.le_of_ble_eq_true rfl⟩ rfl rfl ⟨Nat.zero_le _, Nat.zero_le _⟩ hl.1 rfl (Nat.le_of_ble_eq_true rfl) rfl dX6_unique_62 (fun H locs Z => ?_)
        have h28 := Option.some.inj h27
        subst h28
        exact hRet _ _ _ _ Z dX6_unique_65
      · have h21 := if_p h18 c19
        clear h18
        refine x_bipush C dX6_unique_40 (by decide) ?_
        refine lv_goto (tgt := 65) C.1 C.2.1 dX6_unique_42 (by decide) ?_
        have h29 := Option.some.inj h21
        subst h29
        exact hRet _ _ _ _ Z dX6_unique_65
    · have h12 := if_p h9 c10
      clear h9
      refine x_bipush C dX6_unique_14 (by decide) ?_
      have h30 := Option.some.inj h12
      subst h30
      exact hRet _ _ _ _ Z dX6_unique_16
  · have h7 := if_p h4 c5
    clear h4
    refine x_iconst C dX6_unique_8 ?_
    have h31 := Option.some.inj h7
    subst h31
    exact hRet _ _ _ _ Z dX6_unique_9
abbrev rmX5_takeFirstSequence : Room := { frames := 2, cells := 0, slots := 0, locals := 43 }
theorem yk_X5_takeFirstSequence : xY yX5_takeFirstSequence RX5 cX5_takeFirstSequence 3 none wsX5_takeFirstSequence rmX5_takeFirstSequence 1 := ⟨⟨_, rfl⟩, by decide +kernel, rfl, rfl⟩
theorem i_X5_X5_takeFirstSequence : ∀ w ∈ u_ws RX5 TX5 8, w ∈ wsX5_takeFirstSequence := fun _ h => List.mem_cons_of_mem _ (List.mem_append_right _ h)
set_option maxHeartbeats 4000000 in
set_option maxRecDepth 100000 in
theorem k_X5_takeFirstSequence (l : Launch) (g : xG) (n : Nat) (aT : Nat → Nat) (sT : TxtS) (v1 : Int) (r : TxtS) (hf : p_X5_takeFirstSequence n sT v1 = some r) : xMv l yX5_takeFirstSequence wsX5_takeFirstSequence rmX5_takeFirstSequence g [.ref (aT 0), .int (iI v1)] (wT g aT sT) (wT g aT r) := by
  refine x_ofW_v (own := RX5) (by decide) rfl rfl (Nat.le_of_ble_eq_true rfl) ?_
  intro p e s m args below meth c ls A QQ C hRet Z hl
  have hl : lv_has ls 3 [(0, .ref (aT 0)), (1, .int (iI v1))] := hl
  unfold p_X5_takeFirstSequence at hf
  refine lv_aload_n C.1 C.2.1 dX5_takeFirstSequence_0 rfl (lv_at hl 0 rfl) ?_
  refine lv_iload_n C.1 C.2.1 dX5_takeFirstSequence_1 rfl (lv_at hl 1 rfl) ?_
  obtain ⟨r1, hr1, h2⟩ := bd_some hf
  clear hf
  refine x_callV_v_id (As := [.int (iI v1)]) (rest := []) (q0 := 0) C Z (k_X5_becomeOneWord l g n aT sT v1 r1 hr1) gX5_takeFirstSequence_X5_becomeOneWord yk_X5_becomeOneWord ⟨Nat.le_of_ble_eq_true rfl, Nat.le_of_ble_eq_true rfl⟩ rfl rfl ⟨Nat.zero_le _, Nat.zero_le _⟩ hl.1 rfl (Nat.le_of_ble_eq_true rfl) rfl dX5_takeFirstSequence_2 (fun H locs Z => ?_)
  refine x_iconst C dX5_takeFirstSequence_5 ?_
  refine lv_istore_n (lv' := [(2, .int (iI 0)), (0, .ref (aT 0)), (1, .int (iI v1))]) C.1 C.2.1 dX5_takeFirstSequence_6 rfl hl (by decide) rfl (fun ls hl => ?_)
  obtain ⟨ex7, hl7, h23⟩ := bd_some h2
  clear h2
  have hK7 : ∀ (H : Heap) (locs : List Loc) (ls : Array Slot), xSt g A s (wT g aT (ex7, r1.words, r1.places, r1.rests, r1.starts, r1.wordCount, r1.length, r1.version)) H locs → lv_has ls 3 [] → W p l e rmX5_takeFirstSequence s m args below meth c H locs 0 0 QQ (F0 m 28 ls []) := by
    intro H locs ls Z hl
    have h24 := h23
    clear h23
    have h25 := Option.some.inj h24
    subst h25
    exact hRet _ _ _ _ Z dX5_takeFirstSequence_28
  have hL7 : ∀ (k7 : Nat) (z7 : Int × Row) (H : Heap) (locs : List Loc) (ls : Array Slot), lp (p_X5_takeFirstSequence_b7 n r1) k7 z7 = some ex7 → xSt g A s (wT g aT (z7.2, r1.words, r1.places, r1.rests, r1.starts, r1.wordCount, r1.length, r1.version)) H locs → lv_has ls 3 [(0, .ref (aT 0)), (2, .int (iI z7.1))] → W p l e rmX5_takeFirstSequence s m args below meth c H locs 0 0 QQ (F0 m 7 ls []) := by
    intro k7
    induction k7 with
    | zero => intro z7 H locs ls h; exact (lp_0 h).elim
    | succ k7 ih7 =>
      intro z7 H locs ls h Z hl
      obtain ⟨x7, hb7, hx7⟩ := lp_s h
      clear h
      unfold p_X5_takeFirstSequence_b7 at hb7
      refine lv_iload_n C.1 C.2.1 dX5_takeFirstSequence_7 rfl (lv_at hl 1 rfl) ?_
      refine lv_aload_n C.1 C.2.1 dX5_takeFirstSequence_8 rfl (lv_at hl 0 rfl) ?_
      refine x_get C Z 0 rfl rfl i_X5_X5_takeFirstSequence (k := 6) (by decide) (List.mem_of_getElem? (i := 1) rfl) rfl dX5_takeFirstSequence_9 ?_
      have q13 := (ck_some hb7).1
      have h14 := (ck_some hb7).2
      clear hb7
      have q15 := (ck_some h14).1
      have h16 := (ck_some h14).2
      clear h14
      refine x_icmp_ge (tgt := 28) C dX5_takeFirstSequence_12 (by decide) q13 q15 (fun c17 => ?_) (fun c17 => ?_)
      · have h18 := if_n h16 c17
        clear h16
        cases h18
        have h20 := lp_R hx7
        subst h20
        exact hK7 _ _ _ Z (lv_sub hl [] rfl)
      · have h19 := if_p h16 c17
        clear h16
        refine lv_aload_n C.1 C.2.1 dX5_takeFirstSequence_15 rfl (lv_at hl 0 rfl) ?_
        refine x_get C Z 0 rfl rfl i_X5_X5_takeFirstSequence (k := 0) (by decide) (List.mem_of_getElem? (i := 2) rfl) rfl dX5_takeFirstSequence_16 ?_
        refine lv_iload_n C.1 C.2.1 dX5_takeFirstSequence_19 rfl (lv_at hl 1 rfl) ?_
        refine x_iconst C dX5_takeFirstSequence_20 ?_
        have q21 := (ix_some h19).1
        have h22 := (ix_some h19).2
        clear h19
        refine x_iast (ws2 := wT g aT (up z7.2 z7.1 0, r1.words, r1.places, r1.rests, r1.starts, r1.wordCount, r1.length, r1.version)) C Z 1 rfl (by decide) q21 dX5_takeFirstSequence_21 rfl (fun H locs Z => ?_)
        refine x_iinc (lv' := [(2, .int (iI (z7.1 + 1))), (0, .ref (aT 0))]) C dX5_takeFirstSequence_22 hl (k := 1) rfl (by decide) rfl (fun ls hl => ?_)
        refine lv_goto (tgt := 7) C.1 C.2.1 dX5_takeFirstSequence_25 (by decide) ?_
        cases h22
        exact ih7 (z7.1 + 1, up z7.2 z7.1 0) _ _ _ (lp_L2 hx7) Z (lv_sub hl [1, 0] rfl)
  exact hL7 n (0, r1.letters) _ _ _ hl7 Z (lv_sub hl [1, 0] rfl)
abbrev rmX5_turnToNext : Room := { frames := 0, cells := 0, slots := 0, locals := 0 }
theorem yk_X5_turnToNext : xY yX5_turnToNext RX5 cX5_turnToNext 3 (some .boolean) wsX5_turnToNext rmX5_turnToNext 1 := ⟨⟨_, rfl⟩, by decide +kernel, rfl, rfl⟩
theorem i_X5_X5_turnToNext : ∀ w ∈ u_ws RX5 TX5 8, w ∈ wsX5_turnToNext := fun _ h => List.mem_cons_of_mem _ (List.mem_append_right _ h)
set_option maxHeartbeats 4000000 in
set_option maxRecDepth 100000 in
theorem k_X5_turnToNext (l : Launch) (g : xG) (n : Nat) (aT : Nat → Nat) (sT : TxtS) (v1 : Int) (r : Int × TxtS) (hf : p_X5_turnToNext n sT v1 = some r) : xMi l yX5_turnToNext wsX5_turnToNext rmX5_turnToNext g [.ref (aT 0), .int (iI v1)] (wT g aT sT) (wT g aT r.2) r.1 := by
  refine x_ofW_z (own := RX5) (by decide) rfl rfl (Nat.le_of_ble_eq_true rfl) ?_
  intro p e s m args below meth c ls A QQ C hRet Z hl
  have hl : lv_has ls 3 [(0, .ref (aT 0)), (1, .int (iI v1))] := hl
  unfold p_X5_turnToNext at hf
  refine lv_aload_n C.1 C.2.1 dX5_turnToNext_0 rfl (lv_at hl 0 rfl) ?_
  refine x_get C Z 0 rfl rfl i_X5_X5_turnToNext (k := 6) (by decide) (List.mem_of_getElem? (i := 1) rfl) rfl dX5_turnToNext_1 ?_
  refine x_iconst C dX5_turnToNext_4 ?_
  refine x_isub C dX5_turnToNext_5 ?_
  refine lv_istore_n (lv' := [(2, .int (iI (sT.length - 1))), (0, .ref (aT 0)), (1, .int (iI v1))]) C.1 C.2.1 dX5_turnToNext_6 rfl hl (by decide) rfl (fun ls hl => ?_)
  obtain ⟨ex7, hl7, h39⟩ := bd_some hf
  clear hf
  have hK7 : ∀ (e7 : Row) (H : Heap) (locs : List Loc) (ls : Array Slot), ex7 = .inr e7 → xSt g A s (wT g aT (e7, sT.words, sT.places, sT.rests, sT.starts, sT.wordCount, sT.length, sT.version)) H locs → lv_has ls 3 [] → W p l e rmX5_turnToNext s m args below meth c H locs 0 0 QQ (F0 m 48 ls []) := by
    intro e7 H locs ls he Z hl
    subst he
    have h40 := (Sum.elim_inr ..).symm.trans h39
    clear h39
    refine x_iconst C dX5_turnToNext_48 ?_
    have h41 := Option.some.inj h40
    subst h41
    exact hRet _ _ _ _ (x_bool (Or.inl rfl)) Z dX5_turnToNext_49
  have hL7 : ∀ (k7 : Nat) (z7 : Int × Row) (H : Heap) (locs : List Loc) (ls : Array Slot), lp (p_X5_turnToNext_b7 n sT v1) k7 z7 = some ex7 → xSt g A s (wT g aT (z7.2, sT.words, sT.places, sT.rests, sT.starts, sT.wordCount, sT.length, sT.version)) H locs → lv_has ls 3 [(0, .ref (aT 0)), (1, .int (iI v1)), (2, .int (iI z7.1))] → W p l e rmX5_turnToNext s m args below meth c H locs 0 0 QQ (F0 m 7 ls []) := by
    intro k7
    induction k7 with
    | zero => intro z7 H locs ls h; exact (lp_0 h).elim
    | succ k7 ih7 =>
      intro z7 H locs ls h Z hl
      obtain ⟨x7, hb7, hx7⟩ := lp_s h
      clear h
      unfold p_X5_turnToNext_b7 at hb7
      refine lv_iload_n C.1 C.2.1 dX5_turnToNext_7 rfl (lv_at hl 2 rfl) ?_
      have q20 := (ck_some hb7).1
      have h21 := (ck_some hb7).2
      clear hb7
      refine x_if_lt (tgt := 48) C dX5_turnToNext_8 (by decide) q20 (fun c22 => ?_) (fun c22 => ?_)
      · have h23 := if_p h21 c22
        clear h21
        cases h23
        exact hK7 z7.2 _ _ _ (lp_R hx7).symm Z (lv_sub hl [] rfl)
      · have h24 := if_n h21 c22
        clear h21
        refine lv_aload_n C.1 C.2.1 dX5_turnToNext_11 rfl (lv_at hl 0 rfl) ?_
        refine x_get C Z 0 rfl rfl i_X5_X5_turnToNext (k := 0) (by decide) (List.mem_of_getElem? (i := 2) rfl) rfl dX5_turnToNext_12 ?_
        refine lv_iload_n C.1 C.2.1 dX5_turnToNext_15 rfl (lv_at hl 2 rfl) ?_
        have q25 := (ix_some h24).1
        have h26 := (ix_some h24).2
        clear h24
        refine x_iald C Z 1 rfl (by decide) q25 dX5_turnToNext_16 ?_
        refine x_iconst C dX5_turnToNext_17 ?_
        refine x_iadd C dX5_turnToNext_18 ?_
        refine lv_iload_n C.1 C.2.1 dX5_turnToNext_19 rfl (lv_at hl 1 rfl) ?_
        have q27 := (ck_some h26).1
        have h28 := (ck_some h26).2
        clear h26
        have q29 := (ck_some h28).1
        have h30 := (ck_some h28).2
        clear h28
        refine x_icmp_ge (tgt := 35) C dX5_turnToNext_20 (by decide) q27 q29 (fun c31 => ?_) (fun c31 => ?_)
        · have h32 := if_n h30 c31
          clear h30
          refine lv_aload_n C.1 C.2.1 dX5_turnToNext_35 rfl (lv_at hl 0 rfl) ?_
          refine x_get C Z 0 rfl rfl i_X5_X5_turnToNext (k := 0) (by decide) (List.mem_of_getElem? (i := 2) rfl) rfl dX5_turnToNext_36 ?_
          refine lv_iload_n C.1 C.2.1 dX5_turnToNext_39 rfl (lv_at hl 2 rfl) ?_
          refine x_iconst C dX5_turnToNext_40 ?_
          refine x_iast (ws2 := wT g aT (up z7.2 z7.1 0, sT.words, sT.places, sT.rests, sT.starts, sT.wordCount, sT.length, sT.version)) C Z 1 rfl (by decide) q25 dX5_turnToNext_41 rfl (fun H locs Z => ?_)
          refine x_iinc (lv' := [(2, .int (iI (z7.1 + (-1)))), (0, .ref (aT 0)), (1, .int (iI v1))]) C dX5_turnToNext_42 hl (k := 2) rfl (by decide) rfl (fun ls hl => ?_)
          refine lv_goto (tgt := 7) C.1 C.2.1 dX5_turnToNext_45 (by decide) ?_
          cases h32
          exact ih7 (z7.1 + (-1), up z7.2 z7.1 0) _ _ _ (lp_L2 hx7) Z (lv_sub hl [1, 2, 0] rfl)
        · have h33 := if_p h30 c31
          clear h30
          refine lv_aload_n C.1 C.2.1 dX5_turnToNext_23 rfl (lv_at hl 0 rfl) ?_
          refine x_get C Z 0 rfl rfl i_X5_X5_turnToNext (k := 0) (by decide) (List.mem_of_getElem? (i := 2) rfl) rfl dX5_turnToNext_24 ?_
          refine lv_iload_n C.1 C.2.1 dX5_turnToNext_27 rfl (lv_at hl 2 rfl) ?_
          refine lv_dup2_11 C.1 C.2.1 dX5_turnToNext_28 rfl rfl ?_
          refine x_iald C Z 1 rfl (by decide) q25 dX5_turnToNext_29 ?_
          refine x_iconst C dX5_turnToNext_30 ?_
          refine x_iadd C dX5_turnToNext_31 ?_
          refine x_iast (ws2 := wT g aT (up z7.2 z7.1 ((z7.2 z7.1) + 1), sT.words, sT.places, sT.rests, sT.starts, sT.wordCount, sT.length, sT.version)) C Z 1 rfl (by decide) q25 dX5_turnToNext_32 rfl (fun H locs Z => ?_)
          refine x_iconst C dX5_turnToNext_33 ?_
          cases h33
          have h36 := lp_R hx7
          subst h36
          have h37 := (Sum.elim_inl ..).symm.trans h39
          have h38 := Option.some.inj h37
          subst h38
          exact hRet _ _ _ _ (x_bool (Or.inr rfl)) Z dX5_turnToNext_34
  exact hL7 n (sT.length - 1, sT.letters) _ _ _ hl7 Z (lv_sub hl [1, 2, 0] rfl)
abbrev rmX6_absent : Room := { frames := 4, cells := 0, slots := 0, locals := 90 }
theorem yk_X6_absent : xY yX6_absent RX6 cX6_absent 5 (some .int) wsX6_absent rmX6_absent 1 := ⟨⟨_, rfl⟩, by decide +kernel, rfl, rfl⟩
theorem i_X2_X6_absent : ∀ w ∈ u_ws RX2 TX2 5, w ∈ wsX6_absent := fun _ h => List.mem_cons_of_mem _ (List.mem_append_left _ (List.mem_append_right _ h))
theorem i_X3_X6_absent : ∀ w ∈ u_ws RX3 TX3 2, w ∈ wsX6_absent := fun _ h => List.mem_cons_of_mem _ (List.mem_append_right _ h)
theorem i_X5_X6_absent : ∀ w ∈ u_ws RX5 TX5 8, w ∈ wsX6_absent := fun _ h => List.mem_cons_of_mem _ (List.mem_append_left _ (List.mem_append_left _ (List.mem_append_right _ h)))
theorem i_X6_X6_absent : ∀ w ∈ u_ws RX6 TX6 11, w ∈ wsX6_absent := fun _ h => List.mem_cons_of_mem _ (List.mem_append_left _ (List.mem_append_left _ (List.mem_append_left _ (List.mem_append_right _ h))))
set_option maxHeartbeats 4000000 in
set_option maxRecDepth 100000 in
theorem k_X6_absent (l : Launch) (g : xG) (n : Nat) (aF : Nat → Nat) (aH : Nat → Nat) (aP : Nat → Nat) (aT : Nat → Nat) (aC : Nat → Nat) (aK : Nat → Nat) (aB : Nat → Nat) (aQ : Nat → Nat) (aU : Nat → Nat) (aV : Nat → Nat) (aS : Nat → Nat) (aR : Nat → Nat) (rr : Nat → Nat) (sF : Int) (sH : HisS) (sP : PadS) (sT : TxtS) (sC : ClsS) (sK : SwpS) (sB : BegS) (sQ : TxtS) (sU : TxtS) (sV : TxtS) (sS : SwpS) (sR : SwpS) (v1 : Int) (r : Int × PadS × TxtS × TxtS) (hf : p_X6_absent n sF sH sP sT sQ v1 = some r) : xMi l yX6_absent wsX6_absent rmX6_absent g [.ref (aF 0), .int (iI v1)] ((wF g aF (aH 0) (aP 0) (aT 0) (aC 0) (aB 0) (aQ 0) (aU 0) (aV 0) (aS 0) (aR 0) sF ++ (wH g aH sH ++ (wP g aP sP ++ (wT g aT sT ++ (wC g aC (aK 0) rr sC ++ (wS g aK sK ++ (wB g aB sB ++ (wT g aQ sQ ++ (wT g aU sU ++ (wT g aV sV ++ (wS g aS sS ++ wS g aR sR))))))))))) ++ wR g rr sC.classOf) ((wF g aF (aH 0) (aP 0) (aT 0) (aC 0) (aB 0) (aQ 0) (aU 0) (aV 0) (aS 0) (aR 0) sF ++ (wH g aH sH ++ (wP g aP r.2.1 ++ (wT g aT r.2.2.1 ++ (wC g aC (aK 0) rr sC ++ (wS g aK sK ++ (wB g aB sB ++ (wT g aQ r.2.2.2 ++ (wT g aU sU ++ (wT g aV sV ++ (wS g aS sS ++ wS g aR sR))))))))))) ++ wR g rr sC.classOf) r.1 := by
  refine x_ofW_i (own := RX6) (by decide) rfl rfl (Nat.le_of_ble_eq_true rfl) ?_
  intro p e s m args below meth c ls A QQ C hRet Z hl
  have hl : lv_has ls 5 [(0, .ref (aF 0)), (1, .int (iI v1))] := hl
  unfold p_X6_absent at hf
  refine lv_iload_n C.1 C.2.1 dX6_absent_0 rfl (lv_at hl 1 rfl) ?_
  refine x_iconst C dX6_absent_1 ?_
  have q1 := (ck_some hf).1
  have h2 := (ck_some hf).2
  clear hf
  refine x_icmp_lt (tgt := 11) C dX6_absent_2 (by decide) q1 (by decide) (fun c3 => ?_) (fun c3 => ?_)
  · have h4 := if_p h2 c3
    clear h2
    refine x_bipush C dX6_absent_11 (by decide) ?_
    have h6 := Option.some.inj h4
    subst h6
    exact hRet _ _ _ _ Z dX6_absent_13
  · have h5 := if_n h2 c3
    clear h2
    refine lv_iload_n C.1 C.2.1 dX6_absent_5 rfl (lv_at hl 1 rfl) ?_
    refine x_bipush C dX6_absent_6 (by decide) ?_
    refine x_icmp_le (tgt := 14) C dX6_absent_8 (by decide) q1 (by decide) (fun c7 => ?_) (fun c7 => ?_)
    · have h8 := if_n h5 c7
      clear h5
      refine lv_aload_n C.1 C.2.1 dX6_absent_14 rfl (lv_at hl 0 rfl) ?_
      obtain ⟨r10, hr10, h11⟩ := bd_some h8
      clear h8
      refine x_callV_v_id (As := []) (rest := []) (q0 := 0) C Z (k_X6_showPresent l g n aF aH aP aT aC aK aB aQ aU aV aS aR rr sF sH sP sT sC sK sB sQ sU sV sS sR r10 hr10) gX6_absent_X6_showPresent yk_X6_showPresent ⟨Nat.le_of_ble_eq_true rfl, Nat.le_of_ble_eq_true rfl⟩ rfl rfl ⟨Nat.zero_le _, Nat.zero_le _⟩ hl.1 rfl (Nat.le_of_ble_eq_true rfl) rfl dX6_absent_15 (fun H locs Z => ?_)
      refine x_iconst C dX6_absent_18 ?_
      refine lv_istore_n (lv' := [(2, .int (iI 1)), (0, .ref (aF 0)), (1, .int (iI v1))]) C.1 C.2.1 dX6_absent_19 rfl hl (by decide) rfl (fun ls hl => ?_)
      obtain ⟨ex20, hl20, h134⟩ := bd_some h11
      clear h11
      have hK20 : ∀ (e20 : PadS × TxtS) (H : Heap) (locs : List Loc) (ls : Array Slot), ex20 = .inr e20 → xSt g A s ((wF g aF (aH 0) (aP 0) (aT 0) (aC 0) (aB 0) (aQ 0) (aU 0) (aV 0) (aS 0) (aR 0) sF ++ (wH g aH sH ++ (wP g aP e20.1 ++ (wT g aT r10 ++ (wC g aC (aK 0) rr sC ++ (wS g aK sK ++ (wB g aB sB ++ (wT g aQ e20.2 ++ (wT g aU sU ++ (wT g aV sV ++ (wS g aS sS ++ wS g aR sR))))))))))) ++ wR g rr sC.classOf) H locs → lv_has ls 5 [] → W p l e rmX6_absent s m args below meth c H locs 0 0 QQ (F0 m 103 ls []) := by
        intro e20 H locs ls he Z hl
        subst he
        have h135 := (Sum.elim_inr ..).symm.trans h134
        clear h134
        refine x_bipush C dX6_absent_103 (by decide) ?_
        have h136 := Option.some.inj h135
        subst h136
        exact hRet _ _ _ _ Z dX6_absent_105
      have hL20 : ∀ (k20 : Nat) (z20 : Int × PadS × TxtS) (H : Heap) (locs : List Loc) (ls : Array Slot), lp (p_X6_absent_b20 n r10 v1) k20 z20 = some ex20 → xSt g A s ((wF g aF (aH 0) (aP 0) (aT 0) (aC 0) (aB 0) (aQ 0) (aU 0) (aV 0) (aS 0) (aR 0) sF ++ (wH g aH sH ++ (wP g aP z20.2.1 ++ (wT g aT r10 ++ (wC g aC (aK 0) rr sC ++ (wS g aK sK ++ (wB g aB sB ++ (wT g aQ z20.2.2 ++ (wT g aU sU ++ (wT g aV sV ++ (wS g aS sS ++ wS g aR sR))))))))))) ++ wR g rr sC.classOf) H locs → lv_has ls 5 [(0, .ref (aF 0)), (1, .int (iI v1)), (2, .int (iI z20.1))] → W p l e rmX6_absent s m args below meth c H locs 0 0 QQ (F0 m 20 ls []) := by
        intro k20
        induction k20 with
        | zero => intro z20 H locs ls h; exact (lp_0 h).elim
        | succ k20 ih20 =>
          intro z20 H locs ls h Z hl
          obtain ⟨x20, hb20, hx20⟩ := lp_s h
          clear h
          unfold p_X6_absent_b20 at hb20
          refine lv_iload_n C.1 C.2.1 dX6_absent_20 rfl (lv_at hl 2 rfl) ?_
          refine x_bipush C dX6_absent_21 (by decide) ?_
          have q73 := (ck_some hb20).1
          have h74 := (ck_some hb20).2
          clear hb20
          refine x_icmp_gt (tgt := 103) C dX6_absent_23 (by decide) q73 (by decide) (fun c75 => ?_) (fun c75 => ?_)
          · have h76 := if_p h74 c75
            clear h74
            cases h76
            exact hK20 (z20.2.1, z20.2.2) _ _ _ (lp_R hx20).symm Z (lv_sub hl [] rfl)
          · have h77 := if_n h74 c75
            clear h74
            refine lv_aload_n C.1 C.2.1 dX6_absent_26 rfl (lv_at hl 0 rfl) ?_
            refine x_get C Z 0 rfl rfl i_X6_X6_absent (k := 5) (by decide) (List.mem_of_getElem? (i := 1) rfl) rfl dX6_absent_27 ?_
            refine lv_iload_n C.1 C.2.1 dX6_absent_30 rfl (lv_at hl 2 rfl) ?_
            obtain ⟨r78, hr78, h79⟩ := bd_some h77
            clear h77
            refine x_callV_v_Q (As := [.int (iI z20.1)]) (rest := []) (q0 := 0) (X2 := (wF g aF (aH 0) (aP 0) (aT 0) (aC 0) (aB 0) (aQ 0) (aU 0) (aV 0) (aS 0) (aR 0) sF ++ (wH g aH sH ++ (wP g aP z20.2.1 ++ (wT g aT r10 ++ (wC g aC (aK 0) rr sC ++ (wS g aK sK ++ (wB g aB sB ++ (wT g aQ r78 ++ (wT g aU sU ++ (wT g aV sV ++ (wS g aS sS ++ wS g aR sR)))))))))))) C Z fr_FHPTCKBQUVSR_7 (k_X5_takeFirstSequence l g n aQ z20.2.2 z20.1 r78 hr78) gX6_absent_X5_takeFirstSequence yk_X5_takeFirstSequence ⟨Nat.le_of_ble_eq_true rfl, Nat.le_of_ble_eq_true rfl⟩ rfl rfl ⟨Nat.zero_le _, Nat.zero_le _⟩ hl.1 rfl (Nat.le_of_ble_eq_true rfl) rfl dX6_absent_31 (fun H locs Z => ?_)
            refine x_iconst C dX6_absent_34 ?_
            refine lv_istore_n (lv' := [(3, .int (iI 1)), (0, .ref (aF 0)), (1, .int (iI v1)), (2, .int (iI z20.1))]) C.1 C.2.1 dX6_absent_35 rfl hl (by decide) rfl (fun ls hl => ?_)
            refine x_iconst C dX6_absent_36 ?_
            refine lv_istore (lv' := [(4, .int (iI 0)), (3, .int (iI 1)), (0, .ref (aF 0)), (1, .int (iI v1)), (2, .int (iI z20.1))]) C.1 C.2.1 dX6_absent_37 hl (by decide) rfl (fun ls hl => ?_)
            obtain ⟨ex39, hl39, h132⟩ := bd_some h79
            clear h79
            have hK39 : ∀ (e39 : PadS × TxtS) (H : Heap) (locs : List Loc) (ls : Array Slot), ex39 = .inr e39 → xSt g A s ((wF g aF (aH 0) (aP 0) (aT 0) (aC 0) (aB 0) (aQ 0) (aU 0) (aV 0) (aS 0) (aR 0) sF ++ (wH g aH sH ++ (wP g aP e39.1 ++ (wT g aT r10 ++ (wC g aC (aK 0) rr sC ++ (wS g aK sK ++ (wB g aB sB ++ (wT g aQ e39.2 ++ (wT g aU sU ++ (wT g aV sV ++ (wS g aS sS ++ wS g aR sR))))))))))) ++ wR g rr sC.classOf) H locs → lv_has ls 5 [(0, .ref (aF 0)), (1, .int (iI v1)), (2, .int (iI z20.1))] → W p l e rmX6_absent s m args below meth c H locs 0 0 QQ (F0 m 97 ls []) := by
              intro e39 H locs ls he Z hl
              subst he
              have h133 := (Sum.elim_inr ..).symm.trans h132
              clear h132
              refine x_iinc (lv' := [(2, .int (iI (z20.1 + 1))), (0, .ref (aF 0)), (1, .int (iI v1))]) C dX6_absent_97 hl (k := 2) rfl (by decide) rfl (fun ls hl => ?_)
              refine lv_goto (tgt := 20) C.1 C.2.1 dX6_absent_100 (by decide) ?_
              cases h133
              exact ih20 (z20.1 + 1, e39.1, e39.2) _ _ _ (lp_L2 hx20) Z (lv_sub hl [1, 2, 0] rfl)
            have hL39 : ∀ (k39 : Nat) (z39 : Int × Int × PadS × TxtS) (H : Heap) (locs : List Loc) (ls : Array Slot), lp (p_X6_absent_b39 n r10 v1 z20.1) k39 z39 = some ex39 → xSt g A s ((wF g aF (aH 0) (aP 0) (aT 0) (aC 0) (aB 0) (aQ 0) (aU 0) (aV 0) (aS 0) (aR 0) sF ++ (wH g aH sH ++ (wP g aP z39.2.2.1 ++ (wT g aT r10 ++ (wC g aC (aK 0) rr sC ++ (wS g aK sK ++ (wB g aB sB ++ (wT g aQ z39.2.2.2 ++ (wT g aU sU ++ (wT g aV sV ++ (wS g aS sS ++ wS g aR sR))))))))))) ++ wR g rr sC.classOf) H locs → lv_has ls 5 [(0, .ref (aF 0)), (1, .int (iI v1)), (2, .int (iI z20.1)), (3, .int (iI z39.1)), (4, .int (iI z39.2.1))] → W p l e rmX6_absent s m args below meth c H locs 0 0 QQ (F0 m 39 ls []) := by
              intro k39
              induction k39 with
              | zero => intro z39 H locs ls h; exact (lp_0 h).elim
              | succ k39 ih39 =>
                intro z39 H locs ls h Z hl
                obtain ⟨x39, hb39, hx39⟩ := lp_s h
                clear h
                unfold p_X6_absent_b39 at hb39
                refine lv_iload C.1 C.2.1 dX6_absent_39 (lv_at hl 4 rfl) ?_
                refine x_bipush C dX6_absent_41 (by decide) ?_
                have q106 := (ck_some hb39).1
                have h107 := (ck_some hb39).2
                clear hb39
                refine x_icmp_gt (tgt := 97) C dX6_absent_43 (by decide) q106 (by decide) (fun c108 => ?_) (fun c108 => ?_)
                · have h109 := if_p h107 c108
                  clear h107
                  cases h109
                  exact hK39 (z39.2.2.1, z39.2.2.2) _ _ _ (lp_R hx39).symm Z (lv_sub hl [0, 1, 2] rfl)
                · have h110 := if_n h107 c108
                  clear h107
                  refine lv_iload_n C.1 C.2.1 dX6_absent_46 rfl (lv_at hl 3 rfl) ?_
                  have q111 := (ck_some h110).1
                  have h112 := (ck_some h110).2
                  clear h110
                  refine x_if_eq (tgt := 97) C dX6_absent_47 (by decide) q111 (fun c113 => ?_) (fun c113 => ?_)
                  · have h114 := if_p h112 c113
                    clear h112
                    cases h114
                    exact hK39 (z39.2.2.1, z39.2.2.2) _ _ _ (lp_R hx39).symm Z (lv_sub hl [0, 1, 2] rfl)
                  · have h115 := if_n h112 c113
                    clear h112
                    refine lv_aload_n C.1 C.2.1 dX6_absent_50 rfl (lv_at hl 0 rfl) ?_
                    refine x_get C Z 0 rfl rfl i_X6_X6_absent (k := 2) (by decide) (List.mem_of_getElem? (i := 2) rfl) rfl dX6_absent_51 ?_
                    refine lv_aload_n C.1 C.2.1 dX6_absent_54 rfl (lv_at hl 0 rfl) ?_
                    refine x_get C Z 0 rfl rfl i_X6_X6_absent (k := 5) (by decide) (List.mem_of_getElem? (i := 1) rfl) rfl dX6_absent_55 ?_
                    refine x_iconst C dX6_absent_58 ?_
                    obtain ⟨r116, hr116, h117⟩ := bd_some h115
                    clear h115
                    refine x_callV_i_Q (As := [.ref (aQ 0), .int (iI 0)]) (rest := []) (q0 := 0) (X2 := (wF g aF (aH 0) (aP 0) (aT 0) (aC 0) (aB 0) (aQ 0) (aU 0) (aV 0) (aS 0) (aR 0) sF ++ (wH g aH sH ++ (wP g aP z39.2.2.1 ++ (wT g aT r10 ++ (wC g aC (aK 0) rr sC ++ (wS g aK sK ++ (wB g aB sB ++ (wT g aQ z39.2.2.2 ++ (wT g aU sU ++ (wT g aV sV ++ (wS g aS sS ++ wS g aR sR)))))))))))) C Z fr_FHPTCKBQUVSR_3_7 (k_X5_endNumber l g n aT aQ r10 z39.2.2.2 0 r116 hr116) gX6_absent_X5_endNumber yk_X5_endNumber ⟨Nat.le_of_ble_eq_true rfl, Nat.le_of_ble_eq_true rfl⟩ rfl rfl ⟨Nat.zero_le _, Nat.zero_le _⟩ hl.1 rfl (Nat.le_of_ble_eq_true rfl) rfl dX6_absent_59 (fun H locs Z => ?_)
                    refine x_bipush C dX6_absent_62 (by decide) ?_
                    have q118 := (ck_some h117).1
                    have h119 := (ck_some h117).2
                    clear h117
                    refine x_icmp_ne (tgt := 82) C dX6_absent_64 (by decide) q118 (by decide) (fun c120 => ?_) (fun c120 => ?_)
                    · have h121 := if_n h119 c120
                      clear h119
                      refine lv_aload_n C.1 C.2.1 dX6_absent_82 rfl (lv_at hl 0 rfl) ?_
                      refine x_get C Z 0 rfl rfl i_X6_X6_absent (k := 5) (by decide) (List.mem_of_getElem? (i := 1) rfl) rfl dX6_absent_83 ?_
                      refine lv_iload_n C.1 C.2.1 dX6_absent_86 rfl (lv_at hl 1 rfl) ?_
                      obtain ⟨r123, hr123, h124⟩ := bd_some h121
                      clear h121
                      refine x_callV_i_Q (As := [.int (iI v1)]) (rest := []) (q0 := 0) (X2 := (wF g aF (aH 0) (aP 0) (aT 0) (aC 0) (aB 0) (aQ 0) (aU 0) (aV 0) (aS 0) (aR 0) sF ++ (wH g aH sH ++ (wP g aP z39.2.2.1 ++ (wT g aT r10 ++ (wC g aC (aK 0) rr sC ++ (wS g aK sK ++ (wB g aB sB ++ (wT g aQ r123.2 ++ (wT g aU sU ++ (wT g aV sV ++ (wS g aS sS ++ wS g aR sR)))))))))))) C Z fr_FHPTCKBQUVSR_7 (k_X5_turnToNext l g n aQ z39.2.2.2 v1 r123 hr123) gX6_absent_X5_turnToNext yk_X5_turnToNext ⟨Nat.le_of_ble_eq_true rfl, Nat.le_of_ble_eq_true rfl⟩ rfl rfl ⟨Nat.zero_le _, Nat.zero_le _⟩ hl.1 rfl (Nat.le_of_ble_eq_true rfl) rfl dX6_absent_87 (fun H locs Z => ?_)
                      refine lv_istore_n (lv' := [(3, .int (iI r123.1)), (0, .ref (aF 0)), (1, .int (iI v1)), (2, .int (iI z20.1)), (4, .int (iI z39.2.1))]) C.1 C.2.1 dX6_absent_90 rfl hl (by decide) rfl (fun ls hl => ?_)
                      refine x_iinc (lv' := [(4, .int (iI (z39.2.1 + 1))), (3, .int (iI r123.1)), (0, .ref (aF 0)), (1, .int (iI v1)), (2, .int (iI z20.1))]) C dX6_absent_91 hl (k := 4) rfl (by decide) rfl (fun ls hl => ?_)
                      refine lv_goto (tgt := 39) C.1 C.2.1 dX6_absent_94 (by decide) ?_
                      cases h124
                      exact ih39 (r123.1, z39.2.1 + 1, z39.2.2.1, r123.2) _ _ _ (lp_L2 hx39) Z (lv_sub hl [2, 3, 4, 1, 0] rfl)
                    · have h122 := if_p h119 c120
                      clear h119
                      refine lv_aload_n C.1 C.2.1 dX6_absent_67 rfl (lv_at hl 0 rfl) ?_
                      refine x_get C Z 0 rfl rfl i_X6_X6_absent (k := 1) (by decide) (List.mem_of_getElem? (i := 3) rfl) rfl dX6_absent_68 ?_
                      refine lv_aload_n C.1 C.2.1 dX6_absent_71 rfl (lv_at hl 0 rfl) ?_
                      refine x_get C Z 0 rfl rfl i_X6_X6_absent (k := 5) (by decide) (List.mem_of_getElem? (i := 1) rfl) rfl dX6_absent_72 ?_
                      refine x_iconst C dX6_absent_75 ?_
                      refine lv_iload_n C.1 C.2.1 dX6_absent_76 rfl (lv_at hl 2 rfl) ?_
                      obtain ⟨r125, hr125, h126⟩ := bd_some h122
                      clear h122
                      refine x_callV_v_Q (As := [.ref (aQ 0), .int (iI 0), .int (iI z20.1)]) (rest := []) (q0 := 0) (X2 := (wF g aF (aH 0) (aP 0) (aT 0) (aC 0) (aB 0) (aQ 0) (aU 0) (aV 0) (aS 0) (aR 0) sF ++ (wH g aH sH ++ (wP g aP r125 ++ (wT g aT r10 ++ (wC g aC (aK 0) rr sC ++ (wS g aK sK ++ (wB g aB sB ++ (wT g aQ z39.2.2.2 ++ (wT g aU sU ++ (wT g aV sV ++ (wS g aS sS ++ wS g aR sR)))))))))))) C Z fr_FHPTCKBQUVSR_2_7 (k_X3_write l g n aP aQ z39.2.2.1 z39.2.2.2 0 z20.1 r125 hr125) gX6_absent_X3_write yk_X3_write ⟨Nat.le_of_ble_eq_true rfl, Nat.le_of_ble_eq_true rfl⟩ rfl rfl ⟨Nat.zero_le _, Nat.zero_le _⟩ hl.1 rfl (Nat.le_of_ble_eq_true rfl) rfl dX6_absent_77 (fun H locs Z => ?_)
                      refine lv_iload_n C.1 C.2.1 dX6_absent_80 rfl (lv_at hl 2 rfl) ?_
                      cases h126
                      have h127 := lp_R hx39
                      subst h127
                      have h128 := (Sum.elim_inl ..).symm.trans h132
                      cases h128
                      have h129 := lp_R hx20
                      subst h129
                      have h130 := (Sum.elim_inl ..).symm.trans h134
                      have h131 := Option.some.inj h130
                      subst h131
                      exact hRet _ _ _ _ Z dX6_absent_81
            exact hL39 n (1, 0, z20.2.1, r78) _ _ _ hl39 Z (lv_sub hl [2, 3, 4, 1, 0] rfl)
      exact hL20 n (1, sP, sQ) _ _ _ hl20 Z (lv_sub hl [1, 2, 0] rfl)
    · have h9 := if_p h5 c7
      clear h5
      refine x_bipush C dX6_absent_11 (by decide) ?_
      have h137 := Option.some.inj h9
      subst h137
      exact hRet _ _ _ _ Z dX6_absent_13
abbrev rmX1_minimalAbsent : Room := { frames := 2, cells := 0, slots := 0, locals := 42 }
theorem yk_X1_minimalAbsent : xY yX1_minimalAbsent RX1 cX1_minimalAbsent 3 (some .int) wsX1_minimalAbsent rmX1_minimalAbsent 0 := ⟨⟨_, rfl⟩, by decide +kernel, rfl, rfl⟩
theorem i_X1_X1_minimalAbsent : ∀ w ∈ u_ws RX1 TX1 13, w ∈ wsX1_minimalAbsent := fun _ h => List.mem_cons_of_mem _ (List.mem_append_right _ h)
set_option maxHeartbeats 4000000 in
set_option maxRecDepth 100000 in
theorem k_X1_minimalAbsent (l : Launch) (g : xG) (n : Nat) (aC : Nat → Nat) (aK : Nat → Nat) (rr : Nat → Nat) (sC : ClsS) (sK : SwpS) (r : Int) (hf : p_X1_minimalAbsent n sC = some r) : xMi l yX1_minimalAbsent wsX1_minimalAbsent rmX1_minimalAbsent g [.ref (aC 0)] ((wC g aC (aK 0) rr sC ++ wS g aK sK) ++ wR g rr sC.classOf) ((wC g aC (aK 0) rr sC ++ wS g aK sK) ++ wR g rr sC.classOf) r := by
  refine x_ofW_i (own := RX1) (by decide) rfl rfl (Nat.le_of_ble_eq_true rfl) ?_
  intro p e s m args below meth c ls A QQ C hRet Z hl
  have hl : lv_has ls 3 [(0, .ref (aC 0))] := hl
  unfold p_X1_minimalAbsent at hf
  refine x_iconst C dX1_minimalAbsent_0 ?_
  refine lv_istore_n (lv' := [(1, .int (iI 0)), (0, .ref (aC 0))]) C.1 C.2.1 dX1_minimalAbsent_1 rfl hl (by decide) rfl (fun ls hl => ?_)
  refine x_iconst C dX1_minimalAbsent_2 ?_
  refine lv_istore_n (lv' := [(2, .int (iI 0)), (1, .int (iI 0)), (0, .ref (aC 0))]) C.1 C.2.1 dX1_minimalAbsent_3 rfl hl (by decide) rfl (fun ls hl => ?_)
  obtain ⟨ex4, hl4, h33⟩ := bd_some hf
  clear hf
  have hK4 : ∀ (H : Heap) (locs : List Loc) (ls : Array Slot), xSt g A s ((wC g aC (aK 0) rr sC ++ wS g aK sK) ++ wR g rr sC.classOf) H locs → lv_has ls 3 [(1, .int (iI ex4))] → W p l e rmX1_minimalAbsent s m args below meth c H locs 0 0 QQ (F0 m 43 ls []) := by
    intro H locs ls Z hl
    have h34 := h33
    clear h33
    refine lv_iload_n C.1 C.2.1 dX1_minimalAbsent_43 rfl (lv_at hl 0 rfl) ?_
    have h35 := Option.some.inj h34
    subst h35
    exact hRet _ _ _ _ Z dX1_minimalAbsent_44
  have hL4 : ∀ (k4 : Nat) (z4 : Int × Int) (H : Heap) (locs : List Loc) (ls : Array Slot), lp (p_X1_minimalAbsent_b4 n sC) k4 z4 = some ex4 → xSt g A s ((wC g aC (aK 0) rr sC ++ wS g aK sK) ++ wR g rr sC.classOf) H locs → lv_has ls 3 [(0, .ref (aC 0)), (1, .int (iI z4.1)), (2, .int (iI z4.2))] → W p l e rmX1_minimalAbsent s m args below meth c H locs 0 0 QQ (F0 m 4 ls []) := by
    intro k4
    induction k4 with
    | zero => intro z4 H locs ls h; exact (lp_0 h).elim
    | succ k4 ih4 =>
      intro z4 H locs ls h Z hl
      obtain ⟨x4, hb4, hx4⟩ := lp_s h
      clear h
      unfold p_X1_minimalAbsent_b4 at hb4
      refine lv_iload_n C.1 C.2.1 dX1_minimalAbsent_4 rfl (lv_at hl 2 rfl) ?_
      refine lv_aload_n C.1 C.2.1 dX1_minimalAbsent_5 rfl (lv_at hl 0 rfl) ?_
      refine x_get C Z 0 rfl rfl i_X1_X1_minimalAbsent (k := 11) (by decide) (List.mem_of_getElem? (i := 1) rfl) rfl dX1_minimalAbsent_6 ?_
      have q17 := (ck_some hb4).1
      have h18 := (ck_some hb4).2
      clear hb4
      have q19 := (ck_some h18).1
      have h20 := (ck_some h18).2
      clear h18
      refine x_icmp_ge (tgt := 43) C dX1_minimalAbsent_9 (by decide) q17 q19 (fun c21 => ?_) (fun c21 => ?_)
      · have h22 := if_n h20 c21
        clear h20
        cases h22
        have h24 := lp_R hx4
        subst h24
        exact hK4 _ _ _ Z (lv_sub hl [1] rfl)
      · have h23 := if_p h20 c21
        clear h20
        refine lv_iload_n C.1 C.2.1 dX1_minimalAbsent_12 rfl (lv_at hl 1 rfl) ?_
        refine lv_aload_n C.1 C.2.1 dX1_minimalAbsent_13 rfl (lv_at hl 0 rfl) ?_
        refine lv_aload_n C.1 C.2.1 dX1_minimalAbsent_14 rfl (lv_at hl 0 rfl) ?_
        refine x_get C Z 0 rfl rfl i_X1_X1_minimalAbsent (k := 7) (by decide) (List.mem_of_getElem? (i := 2) rfl) rfl dX1_minimalAbsent_15 ?_
        refine lv_iload_n C.1 C.2.1 dX1_minimalAbsent_18 rfl (lv_at hl 2 rfl) ?_
        have q25 := (ix_some h23).1
        have h26 := (ix_some h23).2
        clear h23
        refine x_iald C Z 7 rfl (by decide) q25 dX1_minimalAbsent_19 ?_
        obtain ⟨r27, hr27, h28⟩ := bd_some h26
        clear h26
        refine x_callV_i_id (As := [.int (iI (sC.links z4.2))]) (rest := [.int (iI z4.1)]) (q0 := 0) C Z (k_X1_stepsOf l g n aC aK rr sC sK (sC.links z4.2) r27 hr27) gX1_minimalAbsent_X1_stepsOf yk_X1_stepsOf ⟨Nat.le_of_ble_eq_true rfl, Nat.le_of_ble_eq_true rfl⟩ rfl rfl ⟨Nat.zero_le _, Nat.zero_le _⟩ hl.1 rfl (Nat.le_of_ble_eq_true rfl) rfl dX1_minimalAbsent_20 (fun H locs Z => ?_)
        refine lv_aload_n C.1 C.2.1 dX1_minimalAbsent_23 rfl (lv_at hl 0 rfl) ?_
        refine x_get C Z 0 rfl rfl i_X1_X1_minimalAbsent (k := 9) (by decide) (List.mem_of_getElem? (i := 3) rfl) rfl dX1_minimalAbsent_24 ?_
        refine lv_iload_n C.1 C.2.1 dX1_minimalAbsent_27 rfl (lv_at hl 2 rfl) ?_
        refine x_iald C Z 9 rfl (by decide) q25 dX1_minimalAbsent_28 ?_
        refine x_iconst C dX1_minimalAbsent_29 ?_
        refine x_ixor C dX1_minimalAbsent_30 ?_
        refine x_iand C dX1_minimalAbsent_31 ?_
        obtain ⟨r31, hr31, h32⟩ := bd_some h28
        clear h28
        refine x_callS_i (As := [.int (iI (biand r27 (bixor (sC.stepSets z4.2) (-1))))]) (rest := [.int (iI z4.1)]) C Z (k_J6_bitCount_0f7a4 l g n (biand r27 (bixor (sC.stepSets z4.2) (-1))) r31 hr31) gX1_minimalAbsent_J6_bitCount_0f7a4 yk_J6_bitCount_0f7a4 ⟨Nat.le_of_ble_eq_true rfl, Nat.le_of_ble_eq_true rfl⟩ ⟨Nat.zero_le _, Nat.zero_le _⟩ hl.1 rfl (Nat.le_of_ble_eq_true rfl) rfl dX1_minimalAbsent_32 (fun H locs Z => ?_)
        refine x_iadd C dX1_minimalAbsent_35 ?_
        refine lv_istore_n (lv' := [(1, .int (iI (z4.1 + r31))), (0, .ref (aC 0)), (2, .int (iI z4.2))]) C.1 C.2.1 dX1_minimalAbsent_36 rfl hl (by decide) rfl (fun ls hl => ?_)
        refine x_iinc (lv' := [(2, .int (iI (z4.2 + 1))), (1, .int (iI (z4.1 + r31))), (0, .ref (aC 0))]) C dX1_minimalAbsent_37 hl (k := 2) rfl (by decide) rfl (fun ls hl => ?_)
        refine lv_goto (tgt := 4) C.1 C.2.1 dX1_minimalAbsent_40 (by decide) ?_
        cases h32
        exact ih4 (z4.1 + r31, z4.2 + 1) _ _ _ (lp_L2 hx4) Z (lv_sub hl [2, 1, 0] rfl)
  exact hL4 n (0, 0) _ _ _ hl4 Z (lv_sub hl [2, 1, 0] rfl)
abbrev rmX6_minimal : Room := { frames := 6, cells := 0, slots := 0, locals := 139 }
theorem yk_X6_minimal : xY yX6_minimal RX6 cX6_minimal 1 (some .int) wsX6_minimal rmX6_minimal 0 := ⟨⟨_, rfl⟩, by decide +kernel, rfl, rfl⟩
theorem i_X1_X6_minimal : ∀ w ∈ u_ws RX1 TX1 13, w ∈ wsX6_minimal := fun _ h => List.mem_cons_of_mem _ (List.mem_append_left _ (List.mem_append_right _ h))
theorem i_X2_X6_minimal : ∀ w ∈ u_ws RX2 TX2 5, w ∈ wsX6_minimal := fun _ h => List.mem_cons_of_mem _ (List.mem_append_left _ (List.mem_append_left _ (List.mem_append_right _ h)))
theorem i_X4_X6_minimal : ∀ w ∈ u_ws RX4 TX4 1, w ∈ wsX6_minimal := fun _ h => List.mem_cons_of_mem _ (List.mem_append_right _ h)
theorem i_X5_X6_minimal : ∀ w ∈ u_ws RX5 TX5 8, w ∈ wsX6_minimal := fun _ h => List.mem_cons_of_mem _ (List.mem_append_left _ (List.mem_append_left _ (List.mem_append_left _ (List.mem_append_right _ h))))
theorem i_X6_X6_minimal : ∀ w ∈ u_ws RX6 TX6 11, w ∈ wsX6_minimal := fun _ h => List.mem_cons_of_mem _ (List.mem_append_left _ (List.mem_append_left _ (List.mem_append_left _ (List.mem_append_left _ (List.mem_append_right _ h)))))
set_option maxHeartbeats 4000000 in
set_option maxRecDepth 100000 in
theorem k_X6_minimal (l : Launch) (g : xG) (n : Nat) (aF : Nat → Nat) (aH : Nat → Nat) (aP : Nat → Nat) (aT : Nat → Nat) (aC : Nat → Nat) (aK : Nat → Nat) (aB : Nat → Nat) (aQ : Nat → Nat) (aU : Nat → Nat) (aV : Nat → Nat) (aS : Nat → Nat) (aR : Nat → Nat) (rr : Nat → Nat) (sF : Int) (sH : HisS) (sP : PadS) (sT : TxtS) (sC : ClsS) (sK : SwpS) (sB : BegS) (sQ : TxtS) (sU : TxtS) (sV : TxtS) (sS : SwpS) (sR : SwpS) (r : Int × TxtS × ClsS × SwpS) (hf : p_X6_minimal n sF sH sT sC sK = some r) : xMi l yX6_minimal wsX6_minimal rmX6_minimal g [.ref (aF 0)] ((wF g aF (aH 0) (aP 0) (aT 0) (aC 0) (aB 0) (aQ 0) (aU 0) (aV 0) (aS 0) (aR 0) sF ++ (wH g aH sH ++ (wP g aP sP ++ (wT g aT sT ++ (wC g aC (aK 0) rr sC ++ (wS g aK sK ++ (wB g aB sB ++ (wT g aQ sQ ++ (wT g aU sU ++ (wT g aV sV ++ (wS g aS sS ++ wS g aR sR))))))))))) ++ wR g rr sC.classOf) ((wF g aF (aH 0) (aP 0) (aT 0) (aC 0) (aB 0) (aQ 0) (aU 0) (aV 0) (aS 0) (aR 0) sF ++ (wH g aH sH ++ (wP g aP sP ++ (wT g aT r.2.1 ++ (wC g aC (aK 0) rr r.2.2.1 ++ (wS g aK r.2.2.2 ++ (wB g aB sB ++ (wT g aQ sQ ++ (wT g aU sU ++ (wT g aV sV ++ (wS g aS sS ++ wS g aR sR))))))))))) ++ wR g rr r.2.2.1.classOf) r.1 := by
  refine x_ofW_i (own := RX6) (by decide) rfl rfl (Nat.le_of_ble_eq_true rfl) ?_
  intro p e s m args below meth c ls A QQ C hRet Z hl
  have hl : lv_has ls 1 [(0, .ref (aF 0))] := hl
  unfold p_X6_minimal at hf
  refine lv_aload_n C.1 C.2.1 dX6_minimal_0 rfl (lv_at hl 0 rfl) ?_
  obtain ⟨r1, hr1, h2⟩ := bd_some hf
  clear hf
  refine x_callV_v_id (As := []) (rest := []) (q0 := 0) C Z (k_X6_showClasses l g n aF aH aP aT aC aK aB aQ aU aV aS aR rr sF sH sP sT sC sK sB sQ sU sV sS sR r1 hr1) gX6_minimal_X6_showClasses yk_X6_showClasses ⟨Nat.le_of_ble_eq_true rfl, Nat.le_of_ble_eq_true rfl⟩ rfl rfl ⟨Nat.zero_le _, Nat.zero_le _⟩ hl.1 rfl (Nat.le_of_ble_eq_true rfl) rfl dX6_minimal_1 (fun H locs Z => ?_)
  refine lv_aload_n C.1 C.2.1 dX6_minimal_4 rfl (lv_at hl 0 rfl) ?_
  refine x_get C Z 0 rfl rfl i_X6_X6_minimal (k := 3) (by decide) (List.mem_of_getElem? (i := 1) rfl) rfl dX6_minimal_5 ?_
  obtain ⟨r3, hr3, h4⟩ := bd_some h2
  clear h2
  refine x_callV_i_P (As := []) (rest := []) (q0 := 0) (X2 := (wF g aF (aH 0) (aP 0) (aT 0) (aC 0) (aB 0) (aQ 0) (aU 0) (aV 0) (aS 0) (aR 0) sF ++ (wH g aH sH ++ (wP g aP sP ++ (wT g aT r1.1 ++ (wC g aC (aK 0) rr r1.2.1 ++ (wS g aK r1.2.2 ++ (wB g aB sB ++ (wT g aQ sQ ++ (wT g aU sU ++ (wT g aV sV ++ (wS g aS sS ++ wS g aR sR)))))))))))) C Z fr_FHPTCKBQUVSR_4_5 (k_X1_minimalAbsent l g n aC aK rr r1.2.1 r1.2.2 r3 hr3) gX6_minimal_X1_minimalAbsent yk_X1_minimalAbsent ⟨Nat.le_of_ble_eq_true rfl, Nat.le_of_ble_eq_true rfl⟩ rfl rfl ⟨Nat.zero_le _, Nat.zero_le _⟩ hl.1 rfl (Nat.le_of_ble_eq_true rfl) rfl dX6_minimal_8 (fun H locs Z => ?_)
  have h5 := Option.some.inj h4
  subst h5
  exact hRet _ _ _ _ Z dX6_minimal_11
abbrev rmX1_allSteps : Room := { frames := 1, cells := 0, slots := 0, locals := 20 }
theorem yk_X1_allSteps : xY yX1_allSteps RX1 cX1_allSteps 3 (some .int) wsX1_allSteps rmX1_allSteps 0 := ⟨⟨_, rfl⟩, by decide +kernel, rfl, rfl⟩
theorem i_X1_X1_allSteps : ∀ w ∈ u_ws RX1 TX1 13, w ∈ wsX1_allSteps := fun _ h => List.mem_cons_of_mem _ (List.mem_append_right _ h)
set_option maxHeartbeats 4000000 in
set_option maxRecDepth 100000 in
theorem k_X1_allSteps (l : Launch) (g : xG) (n : Nat) (aC : Nat → Nat) (aK : Nat → Nat) (rr : Nat → Nat) (sC : ClsS) (sK : SwpS) (r : Int) (hf : p_X1_allSteps n sC = some r) : xMi l yX1_allSteps wsX1_allSteps rmX1_allSteps g [.ref (aC 0)] ((wC g aC (aK 0) rr sC ++ wS g aK sK) ++ wR g rr sC.classOf) ((wC g aC (aK 0) rr sC ++ wS g aK sK) ++ wR g rr sC.classOf) r := by
  refine x_ofW_i (own := RX1) (by decide) rfl rfl (Nat.le_of_ble_eq_true rfl) ?_
  intro p e s m args below meth c ls A QQ C hRet Z hl
  have hl : lv_has ls 3 [(0, .ref (aC 0))] := hl
  unfold p_X1_allSteps at hf
  refine lv_aload_n C.1 C.2.1 dX1_allSteps_0 rfl (lv_at hl 0 rfl) ?_
  refine x_get C Z 0 rfl rfl i_X1_X1_allSteps (k := 10) (by decide) (List.mem_of_getElem? (i := 1) rfl) rfl dX1_allSteps_1 ?_
  obtain ⟨r1, hr1, h2⟩ := bd_some hf
  clear hf
  refine x_callS_i (As := [.int (iI sC.letterSet)]) (rest := []) C Z (k_J6_bitCount_0f7a4 l g n sC.letterSet r1 hr1) gX1_allSteps_J6_bitCount_0f7a4 yk_J6_bitCount_0f7a4 ⟨Nat.le_of_ble_eq_true rfl, Nat.le_of_ble_eq_true rfl⟩ ⟨Nat.zero_le _, Nat.zero_le _⟩ hl.1 rfl (Nat.le_of_ble_eq_true rfl) rfl dX1_allSteps_4 (fun H locs Z => ?_)
  refine lv_istore_n (lv' := [(1, .int (iI r1)), (0, .ref (aC 0))]) C.1 C.2.1 dX1_allSteps_7 rfl hl (by decide) rfl (fun ls hl => ?_)
  refine x_iconst C dX1_allSteps_8 ?_
  refine lv_istore_n (lv' := [(2, .int (iI 0)), (1, .int (iI r1)), (0, .ref (aC 0))]) C.1 C.2.1 dX1_allSteps_9 rfl hl (by decide) rfl (fun ls hl => ?_)
  obtain ⟨ex10, hl10, h27⟩ := bd_some h2
  clear h2
  have hK10 : ∀ (H : Heap) (locs : List Loc) (ls : Array Slot), xSt g A s ((wC g aC (aK 0) rr sC ++ wS g aK sK) ++ wR g rr sC.classOf) H locs → lv_has ls 3 [(1, .int (iI ex10))] → W p l e rmX1_allSteps s m args below meth c H locs 0 0 QQ (F0 m 36 ls []) := by
    intro H locs ls Z hl
    have h28 := h27
    clear h27
    refine lv_iload_n C.1 C.2.1 dX1_allSteps_36 rfl (lv_at hl 0 rfl) ?_
    have h29 := Option.some.inj h28
    subst h29
    exact hRet _ _ _ _ Z dX1_allSteps_37
  have hL10 : ∀ (k10 : Nat) (z10 : Int × Int) (H : Heap) (locs : List Loc) (ls : Array Slot), lp (p_X1_allSteps_b10 n sC) k10 z10 = some ex10 → xSt g A s ((wC g aC (aK 0) rr sC ++ wS g aK sK) ++ wR g rr sC.classOf) H locs → lv_has ls 3 [(0, .ref (aC 0)), (1, .int (iI z10.1)), (2, .int (iI z10.2))] → W p l e rmX1_allSteps s m args below meth c H locs 0 0 QQ (F0 m 10 ls []) := by
    intro k10
    induction k10 with
    | zero => intro z10 H locs ls h; exact (lp_0 h).elim
    | succ k10 ih10 =>
      intro z10 H locs ls h Z hl
      obtain ⟨x10, hb10, hx10⟩ := lp_s h
      clear h
      unfold p_X1_allSteps_b10 at hb10
      refine lv_iload_n C.1 C.2.1 dX1_allSteps_10 rfl (lv_at hl 2 rfl) ?_
      refine lv_aload_n C.1 C.2.1 dX1_allSteps_11 rfl (lv_at hl 0 rfl) ?_
      refine x_get C Z 0 rfl rfl i_X1_X1_allSteps (k := 11) (by decide) (List.mem_of_getElem? (i := 2) rfl) rfl dX1_allSteps_12 ?_
      have q15 := (ck_some hb10).1
      have h16 := (ck_some hb10).2
      clear hb10
      have q17 := (ck_some h16).1
      have h18 := (ck_some h16).2
      clear h16
      refine x_icmp_ge (tgt := 36) C dX1_allSteps_15 (by decide) q15 q17 (fun c19 => ?_) (fun c19 => ?_)
      · have h20 := if_n h18 c19
        clear h18
        cases h20
        have h22 := lp_R hx10
        subst h22
        exact hK10 _ _ _ Z (lv_sub hl [1] rfl)
      · have h21 := if_p h18 c19
        clear h18
        refine lv_iload_n C.1 C.2.1 dX1_allSteps_18 rfl (lv_at hl 1 rfl) ?_
        refine lv_aload_n C.1 C.2.1 dX1_allSteps_19 rfl (lv_at hl 0 rfl) ?_
        refine x_get C Z 0 rfl rfl i_X1_X1_allSteps (k := 9) (by decide) (List.mem_of_getElem? (i := 3) rfl) rfl dX1_allSteps_20 ?_
        refine lv_iload_n C.1 C.2.1 dX1_allSteps_23 rfl (lv_at hl 2 rfl) ?_
        have q23 := (ix_some h21).1
        have h24 := (ix_some h21).2
        clear h21
        refine x_iald C Z 9 rfl (by decide) q23 dX1_allSteps_24 ?_
        obtain ⟨r25, hr25, h26⟩ := bd_some h24
        clear h24
        refine x_callS_i (As := [.int (iI (sC.stepSets z10.2))]) (rest := [.int (iI z10.1)]) C Z (k_J6_bitCount_0f7a4 l g n (sC.stepSets z10.2) r25 hr25) gX1_allSteps_J6_bitCount_0f7a4 yk_J6_bitCount_0f7a4 ⟨Nat.le_of_ble_eq_true rfl, Nat.le_of_ble_eq_true rfl⟩ ⟨Nat.zero_le _, Nat.zero_le _⟩ hl.1 rfl (Nat.le_of_ble_eq_true rfl) rfl dX1_allSteps_25 (fun H locs Z => ?_)
        refine x_iadd C dX1_allSteps_28 ?_
        refine lv_istore_n (lv' := [(1, .int (iI (z10.1 + r25))), (0, .ref (aC 0)), (2, .int (iI z10.2))]) C.1 C.2.1 dX1_allSteps_29 rfl hl (by decide) rfl (fun ls hl => ?_)
        refine x_iinc (lv' := [(2, .int (iI (z10.2 + 1))), (1, .int (iI (z10.1 + r25))), (0, .ref (aC 0))]) C dX1_allSteps_30 hl (k := 2) rfl (by decide) rfl (fun ls hl => ?_)
        refine lv_goto (tgt := 10) C.1 C.2.1 dX1_allSteps_33 (by decide) ?_
        cases h26
        exact ih10 (z10.1 + r25, z10.2 + 1) _ _ _ (lp_L2 hx10) Z (lv_sub hl [2, 1, 0] rfl)
  exact hL10 n (r1, 0) _ _ _ hl10 Z (lv_sub hl [2, 1, 0] rfl)
abbrev rmX1_size : Room := { frames := 0, cells := 0, slots := 0, locals := 0 }
theorem yk_X1_size : xY yX1_size RX1 cX1_size 1 (some .int) wsX1_size rmX1_size 0 := ⟨⟨_, rfl⟩, by decide +kernel, rfl, rfl⟩
theorem i_X1_X1_size : ∀ w ∈ u_ws RX1 TX1 13, w ∈ wsX1_size := fun _ h => List.mem_cons_of_mem _ (List.mem_append_right _ h)
set_option maxHeartbeats 4000000 in
set_option maxRecDepth 100000 in
theorem k_X1_size (l : Launch) (g : xG) (n : Nat) (aC : Nat → Nat) (aK : Nat → Nat) (rr : Nat → Nat) (sC : ClsS) (sK : SwpS) (r : Int) (hf : p_X1_size sC = some r) : xMi l yX1_size wsX1_size rmX1_size g [.ref (aC 0)] ((wC g aC (aK 0) rr sC ++ wS g aK sK) ++ wR g rr sC.classOf) ((wC g aC (aK 0) rr sC ++ wS g aK sK) ++ wR g rr sC.classOf) r := by
  refine x_ofW_i (own := RX1) (by decide) rfl rfl (Nat.le_of_ble_eq_true rfl) ?_
  intro p e s m args below meth c ls A QQ C hRet Z hl
  have hl : lv_has ls 1 [(0, .ref (aC 0))] := hl
  unfold p_X1_size at hf
  refine lv_aload_n C.1 C.2.1 dX1_size_0 rfl (lv_at hl 0 rfl) ?_
  refine x_get C Z 0 rfl rfl i_X1_X1_size (k := 11) (by decide) (List.mem_of_getElem? (i := 1) rfl) rfl dX1_size_1 ?_
  have h1 := Option.some.inj hf
  subst h1
  exact hRet _ _ _ _ Z dX1_size_4
abbrev rmX2_size : Room := { frames := 0, cells := 0, slots := 0, locals := 0 }
theorem yk_X2_size : xY yX2_size RX2 cX2_size 1 (some .int) wsX2_size rmX2_size 0 := ⟨⟨_, rfl⟩, by decide +kernel, rfl, rfl⟩
theorem i_X2_X2_size : ∀ w ∈ u_ws RX2 TX2 5, w ∈ wsX2_size := fun _ h => List.mem_cons_of_mem _ (List.mem_append_right _ h)
set_option maxHeartbeats 4000000 in
set_option maxRecDepth 100000 in
theorem k_X2_size (l : Launch) (g : xG) (n : Nat) (aH : Nat → Nat) (sH : HisS) (r : Int) (hf : p_X2_size sH = some r) : xMi l yX2_size wsX2_size rmX2_size g [.ref (aH 0)] (wH g aH sH) (wH g aH sH) r := by
  refine x_ofW_i (own := RX2) (by decide) rfl rfl (Nat.le_of_ble_eq_true rfl) ?_
  intro p e s m args below meth c ls A QQ C hRet Z hl
  have hl : lv_has ls 1 [(0, .ref (aH 0))] := hl
  unfold p_X2_size at hf
  refine lv_aload_n C.1 C.2.1 dX2_size_0 rfl (lv_at hl 0 rfl) ?_
  refine x_get C Z 0 rfl rfl i_X2_X2_size (k := 4) (by decide) (List.mem_of_getElem? (i := 1) rfl) rfl dX2_size_1 ?_
  have h1 := Option.some.inj hf
  subst h1
  exact hRet _ _ _ _ Z dX2_size_4
abbrev rmX1_longestRepeat : Room := { frames := 1, cells := 0, slots := 0, locals := 21 }
theorem yk_X1_longestRepeat : xY yX1_longestRepeat RX1 cX1_longestRepeat 3 (some .int) wsX1_longestRepeat rmX1_longestRepeat 0 := ⟨⟨_, rfl⟩, by decide +kernel, rfl, rfl⟩
theorem i_X1_X1_longestRepeat : ∀ w ∈ u_ws RX1 TX1 13, w ∈ wsX1_longestRepeat := fun _ h => List.mem_cons_of_mem _ (List.mem_append_right _ h)
set_option maxHeartbeats 4000000 in
set_option maxRecDepth 100000 in
theorem k_X1_longestRepeat (l : Launch) (g : xG) (n : Nat) (aC : Nat → Nat) (aK : Nat → Nat) (rr : Nat → Nat) (sC : ClsS) (sK : SwpS) (r : Int) (hf : p_X1_longestRepeat n sC = some r) : xMi l yX1_longestRepeat wsX1_longestRepeat rmX1_longestRepeat g [.ref (aC 0)] ((wC g aC (aK 0) rr sC ++ wS g aK sK) ++ wR g rr sC.classOf) ((wC g aC (aK 0) rr sC ++ wS g aK sK) ++ wR g rr sC.classOf) r := by
  refine x_ofW_i (own := RX1) (by decide) rfl rfl (Nat.le_of_ble_eq_true rfl) ?_
  intro p e s m args below meth c ls A QQ C hRet Z hl
  have hl : lv_has ls 3 [(0, .ref (aC 0))] := hl
  unfold p_X1_longestRepeat at hf
  refine x_iconst C dX1_longestRepeat_0 ?_
  refine lv_istore_n (lv' := [(1, .int (iI 0)), (0, .ref (aC 0))]) C.1 C.2.1 dX1_longestRepeat_1 rfl hl (by decide) rfl (fun ls hl => ?_)
  refine x_iconst C dX1_longestRepeat_2 ?_
  refine lv_istore_n (lv' := [(2, .int (iI 0)), (1, .int (iI 0)), (0, .ref (aC 0))]) C.1 C.2.1 dX1_longestRepeat_3 rfl hl (by decide) rfl (fun ls hl => ?_)
  obtain ⟨ex4, hl4, h43⟩ := bd_some hf
  clear hf
  have hK4 : ∀ (H : Heap) (locs : List Loc) (ls : Array Slot), xSt g A s ((wC g aC (aK 0) rr sC ++ wS g aK sK) ++ wR g rr sC.classOf) H locs → lv_has ls 3 [(1, .int (iI ex4))] → W p l e rmX1_longestRepeat s m args below meth c H locs 0 0 QQ (F0 m 39 ls []) := by
    intro H locs ls Z hl
    have h44 := h43
    clear h43
    refine lv_iload_n C.1 C.2.1 dX1_longestRepeat_39 rfl (lv_at hl 0 rfl) ?_
    have h45 := Option.some.inj h44
    subst h45
    exact hRet _ _ _ _ Z dX1_longestRepeat_40
  have hL4 : ∀ (k4 : Nat) (z4 : Int × Int) (H : Heap) (locs : List Loc) (ls : Array Slot), lp (p_X1_longestRepeat_b4 n sC) k4 z4 = some ex4 → xSt g A s ((wC g aC (aK 0) rr sC ++ wS g aK sK) ++ wR g rr sC.classOf) H locs → lv_has ls 3 [(0, .ref (aC 0)), (1, .int (iI z4.1)), (2, .int (iI z4.2))] → W p l e rmX1_longestRepeat s m args below meth c H locs 0 0 QQ (F0 m 4 ls []) := by
    intro k4
    induction k4 with
    | zero => intro z4 H locs ls h; exact (lp_0 h).elim
    | succ k4 ih4 =>
      intro z4 H locs ls h Z hl
      obtain ⟨x4, hb4, hx4⟩ := lp_s h
      clear h
      unfold p_X1_longestRepeat_b4 at hb4
      refine lv_iload_n C.1 C.2.1 dX1_longestRepeat_4 rfl (lv_at hl 2 rfl) ?_
      refine lv_aload_n C.1 C.2.1 dX1_longestRepeat_5 rfl (lv_at hl 0 rfl) ?_
      refine x_get C Z 0 rfl rfl i_X1_X1_longestRepeat (k := 11) (by decide) (List.mem_of_getElem? (i := 1) rfl) rfl dX1_longestRepeat_6 ?_
      have q22 := (ck_some hb4).1
      have h23 := (ck_some hb4).2
      clear hb4
      have q24 := (ck_some h23).1
      have h25 := (ck_some h23).2
      clear h23
      refine x_icmp_ge (tgt := 39) C dX1_longestRepeat_9 (by decide) q22 q24 (fun c26 => ?_) (fun c26 => ?_)
      · have h27 := if_n h25 c26
        clear h25
        cases h27
        have h29 := lp_R hx4
        subst h29
        exact hK4 _ _ _ Z (lv_sub hl [1] rfl)
      · have h28 := if_p h25 c26
        clear h25
        refine lv_aload_n C.1 C.2.1 dX1_longestRepeat_12 rfl (lv_at hl 0 rfl) ?_
        refine x_get C Z 0 rfl rfl i_X1_X1_longestRepeat (k := 6) (by decide) (List.mem_of_getElem? (i := 2) rfl) rfl dX1_longestRepeat_13 ?_
        refine lv_iload_n C.1 C.2.1 dX1_longestRepeat_16 rfl (lv_at hl 2 rfl) ?_
        have q30 := (ix_some h28).1
        have h31 := (ix_some h28).2
        clear h28
        refine x_iald C Z 6 rfl (by decide) q30 dX1_longestRepeat_17 ?_
        refine x_iconst C dX1_longestRepeat_18 ?_
        have q32 := (ck_some h31).1
        have h33 := (ck_some h31).2
        clear h31
        refine x_icmp_lt (tgt := 33) C dX1_longestRepeat_19 (by decide) q32 (by decide) (fun c34 => ?_) (fun c34 => ?_)
        · have h35 := if_p h33 c34
          clear h33
          refine x_iinc (lv' := [(2, .int (iI (z4.2 + 1))), (0, .ref (aC 0)), (1, .int (iI z4.1))]) C dX1_longestRepeat_33 hl (k := 2) rfl (by decide) rfl (fun ls hl => ?_)
          refine lv_goto (tgt := 4) C.1 C.2.1 dX1_longestRepeat_36 (by decide) ?_
          cases h35
          exact ih4 (z4.1, z4.2 + 1) _ _ _ (lp_L2 hx4) Z (lv_sub hl [1, 2, 0] rfl)
        · have h36 := if_n h33 c34
          clear h33
          refine lv_iload_n C.1 C.2.1 dX1_longestRepeat_22 rfl (lv_at hl 1 rfl) ?_
          refine lv_aload_n C.1 C.2.1 dX1_longestRepeat_23 rfl (lv_at hl 0 rfl) ?_
          refine x_get C Z 0 rfl rfl i_X1_X1_longestRepeat (k := 4) (by decide) (List.mem_of_getElem? (i := 3) rfl) rfl dX1_longestRepeat_24 ?_
          refine lv_iload_n C.1 C.2.1 dX1_longestRepeat_27 rfl (lv_at hl 2 rfl) ?_
          refine x_iald C Z 4 rfl (by decide) q30 dX1_longestRepeat_28 ?_
          have q39 := (ck_some h36).1
          have h40 := (ck_some h36).2
          clear h36
          have q41 := (ck_some h40).1
          have h42 := (ck_some h40).2
          clear h40
          refine x_mmax (rest := []) C hl.1 (List.mem_of_getElem? (i := 4) rfl) (List.mem_of_getElem? (i := 5) rfl) (List.mem_of_getElem? (i := 6) rfl) (List.mem_of_getElem? (i := 7) rfl) (by decide) (by decide) (Nat.le_of_ble_eq_true rfl) ⟨Nat.zero_le _, Nat.zero_le _⟩ q39 q41 dX1_longestRepeat_29 ?_
          refine lv_istore_n (lv' := [(1, .int (iI (max z4.1 (sC.longest z4.2)))), (0, .ref (aC 0)), (2, .int (iI z4.2))]) C.1 C.2.1 dX1_longestRepeat_32 rfl hl (by decide) rfl (fun ls hl => ?_)
          refine x_iinc (lv' := [(2, .int (iI (z4.2 + 1))), (1, .int (iI (max z4.1 (sC.longest z4.2)))), (0, .ref (aC 0))]) C dX1_longestRepeat_33 hl (k := 2) rfl (by decide) rfl (fun ls hl => ?_)
          refine lv_goto (tgt := 4) C.1 C.2.1 dX1_longestRepeat_36 (by decide) ?_
          cases h42
          exact ih4 (max z4.1 (sC.longest z4.2), z4.2 + 1) _ _ _ (lp_L2 hx4) Z (lv_sub hl [2, 1, 0] rfl)
  exact hL4 n (0, 0) _ _ _ hl4 Z (lv_sub hl [2, 1, 0] rfl)
abbrev rmX6_count : Room := { frames := 6, cells := 0, slots := 0, locals := 139 }
theorem yk_X6_count : xY yX6_count RX6 cX6_count 2 (some .int) wsX6_count rmX6_count 1 := ⟨⟨_, rfl⟩, by decide +kernel, rfl, rfl⟩
theorem i_X1_X6_count : ∀ w ∈ u_ws RX1 TX1 13, w ∈ wsX6_count := fun _ h => List.mem_cons_of_mem _ (List.mem_append_left _ (List.mem_append_right _ h))
theorem i_X2_X6_count : ∀ w ∈ u_ws RX2 TX2 5, w ∈ wsX6_count := fun _ h => List.mem_cons_of_mem _ (List.mem_append_left _ (List.mem_append_left _ (List.mem_append_right _ h)))
theorem i_X4_X6_count : ∀ w ∈ u_ws RX4 TX4 1, w ∈ wsX6_count := fun _ h => List.mem_cons_of_mem _ (List.mem_append_right _ h)
theorem i_X5_X6_count : ∀ w ∈ u_ws RX5 TX5 8, w ∈ wsX6_count := fun _ h => List.mem_cons_of_mem _ (List.mem_append_left _ (List.mem_append_left _ (List.mem_append_left _ (List.mem_append_right _ h))))
theorem i_X6_X6_count : ∀ w ∈ u_ws RX6 TX6 11, w ∈ wsX6_count := fun _ h => List.mem_cons_of_mem _ (List.mem_append_left _ (List.mem_append_left _ (List.mem_append_left _ (List.mem_append_left _ (List.mem_append_right _ h)))))
set_option maxHeartbeats 4000000 in
set_option maxRecDepth 100000 in
theorem k_X6_count (l : Launch) (g : xG) (n : Nat) (aF : Nat → Nat) (aH : Nat → Nat) (aP : Nat → Nat) (aT : Nat → Nat) (aC : Nat → Nat) (aK : Nat → Nat) (aB : Nat → Nat) (aQ : Nat → Nat) (aU : Nat → Nat) (aV : Nat → Nat) (aS : Nat → Nat) (aR : Nat → Nat) (rr : Nat → Nat) (sF : Int) (sH : HisS) (sP : PadS) (sT : TxtS) (sC : ClsS) (sK : SwpS) (sB : BegS) (sQ : TxtS) (sU : TxtS) (sV : TxtS) (sS : SwpS) (sR : SwpS) (v1 : Int) (r : Int × TxtS × ClsS × SwpS) (hf : p_X6_count n sF sH sT sC sK v1 = some r) : xMi l yX6_count wsX6_count rmX6_count g [.ref (aF 0), .int (iI v1)] ((wF g aF (aH 0) (aP 0) (aT 0) (aC 0) (aB 0) (aQ 0) (aU 0) (aV 0) (aS 0) (aR 0) sF ++ (wH g aH sH ++ (wP g aP sP ++ (wT g aT sT ++ (wC g aC (aK 0) rr sC ++ (wS g aK sK ++ (wB g aB sB ++ (wT g aQ sQ ++ (wT g aU sU ++ (wT g aV sV ++ (wS g aS sS ++ wS g aR sR))))))))))) ++ wR g rr sC.classOf) ((wF g aF (aH 0) (aP 0) (aT 0) (aC 0) (aB 0) (aQ 0) (aU 0) (aV 0) (aS 0) (aR 0) sF ++ (wH g aH sH ++ (wP g aP sP ++ (wT g aT r.2.1 ++ (wC g aC (aK 0) rr r.2.2.1 ++ (wS g aK r.2.2.2 ++ (wB g aB sB ++ (wT g aQ sQ ++ (wT g aU sU ++ (wT g aV sV ++ (wS g aS sS ++ wS g aR sR))))))))))) ++ wR g rr r.2.2.1.classOf) r.1 := by
  refine x_ofW_i (own := RX6) (by decide) rfl rfl (Nat.le_of_ble_eq_true rfl) ?_
  intro p e s m args below meth c ls A QQ C hRet Z hl
  have hl : lv_has ls 2 [(0, .ref (aF 0)), (1, .int (iI v1))] := hl
  unfold p_X6_count at hf
  have hJ22 : ∀ (sT_22 : TxtS) (sC_22 : ClsS) (sK_22 : SwpS) (v1_22 : Int) (H : Heap) (locs : List Loc) (ls : Array Slot), p_X6_count_j22 n sF sH sT_22 sC_22 sK_22 v1_22 = some r → xSt g A s ((wF g aF (aH 0) (aP 0) (aT 0) (aC 0) (aB 0) (aQ 0) (aU 0) (aV 0) (aS 0) (aR 0) sF ++ (wH g aH sH ++ (wP g aP sP ++ (wT g aT sT_22 ++ (wC g aC (aK 0) rr sC_22 ++ (wS g aK sK_22 ++ (wB g aB sB ++ (wT g aQ sQ ++ (wT g aU sU ++ (wT g aV sV ++ (wS g aS sS ++ wS g aR sR))))))))))) ++ wR g rr sC_22.classOf) H locs → lv_has ls 2 [(0, .ref (aF 0)), (1, .int (iI v1_22))] → W p l e rmX6_count s m args below meth c H locs 0 0 QQ (F0 m 22 ls []) := by
    intro sT_22 sC_22 sK_22 v1_22 H locs ls hj22 Z hl
    unfold p_X6_count_j22 at hj22
    refine lv_iload_n C.1 C.2.1 dX6_count_22 rfl (lv_at hl 1 rfl) ?_
    have q1 := (ck_some hj22).1
    have h2 := (ck_some hj22).2
    clear hj22
    by_cases c3 : v1_22 = 0
    · have h4 := if_p h2 c3
      clear h2
      refine x_tin (tgt := 60) C dX6_count_23 q1 c3 (by decide) (by decide) (by rfl) (by decide) ?_
      refine lv_aload_n C.1 C.2.1 dX6_count_60 rfl (lv_at hl 0 rfl) ?_
      refine x_get C Z 0 rfl rfl i_X6_X6_count (k := 10) (by decide) (List.mem_of_getElem? (i := 1) rfl) rfl dX6_count_61 ?_
      have h6 := Option.some.inj h4
      subst h6
      exact hRet _ _ _ _ Z dX6_count_64
    have h5 := if_n h2 c3
    clear h2
    by_cases c7 : v1_22 = 1
    · have h8 := if_p h5 c7
      clear h5
      refine x_tin (tgt := 65) C dX6_count_23 q1 c7 (by decide) (by decide) (by rfl) (by decide) ?_
      refine lv_aload_n C.1 C.2.1 dX6_count_65 rfl (lv_at hl 0 rfl) ?_
      refine x_get C Z 0 rfl rfl i_X6_X6_count (k := 0) (by decide) (List.mem_of_getElem? (i := 2) rfl) rfl dX6_count_66 ?_
      obtain ⟨r10, hr10, h11⟩ := bd_some h8
      clear h8
      refine x_callV_i_Q (As := []) (rest := []) (q0 := 0) (X2 := (wF g aF (aH 0) (aP 0) (aT 0) (aC 0) (aB 0) (aQ 0) (aU 0) (aV 0) (aS 0) (aR 0) sF ++ (wH g aH sH ++ (wP g aP sP ++ (wT g aT sT_22 ++ (wC g aC (aK 0) rr sC_22 ++ (wS g aK sK_22 ++ (wB g aB sB ++ (wT g aQ sQ ++ (wT g aU sU ++ (wT g aV sV ++ (wS g aS sS ++ wS g aR sR)))))))))))) C Z fr_FHPTCKBQUVSR_1 (k_X2_size l g n aH sH r10 hr10) gX6_count_X2_size yk_X2_size ⟨Nat.le_of_ble_eq_true rfl, Nat.le_of_ble_eq_true rfl⟩ rfl rfl ⟨Nat.zero_le _, Nat.zero_le _⟩ hl.1 rfl (Nat.le_of_ble_eq_true rfl) rfl dX6_count_69 (fun H locs Z => ?_)
      have h12 := Option.some.inj h11
      subst h12
      exact hRet _ _ _ _ Z dX6_count_72
    have h9 := if_n h5 c7
    clear h5
    by_cases c13 : v1_22 = 2
    · have h14 := if_p h9 c13
      clear h9
      refine x_tin (tgt := 73) C dX6_count_23 q1 c13 (by decide) (by decide) (by rfl) (by decide) ?_
      refine lv_aload_n C.1 C.2.1 dX6_count_73 rfl (lv_at hl 0 rfl) ?_
      refine x_get C Z 0 rfl rfl i_X6_X6_count (k := 0) (by decide) (List.mem_of_getElem? (i := 2) rfl) rfl dX6_count_74 ?_
      refine lv_aload_n C.1 C.2.1 dX6_count_77 rfl (lv_at hl 0 rfl) ?_
      refine x_get C Z 0 rfl rfl i_X6_X6_count (k := 10) (by decide) (List.mem_of_getElem? (i := 1) rfl) rfl dX6_count_78 ?_
      obtain ⟨r16, hr16, h17⟩ := bd_some h14
      clear h14
      refine x_callV_i_Q (As := [.int (iI sF)]) (rest := []) (q0 := 0) (X2 := (wF g aF (aH 0) (aP 0) (aT 0) (aC 0) (aB 0) (aQ 0) (aU 0) (aV 0) (aS 0) (aR 0) sF ++ (wH g aH sH ++ (wP g aP sP ++ (wT g aT sT_22 ++ (wC g aC (aK 0) rr sC_22 ++ (wS g aK sK_22 ++ (wB g aB sB ++ (wT g aQ sQ ++ (wT g aU sU ++ (wT g aV sV ++ (wS g aS sS ++ wS g aR sR)))))))))))) C Z fr_FHPTCKBQUVSR_1 (k_X2_wordsIn l g n aH sH sF r16 hr16) gX6_count_X2_wordsIn yk_X2_wordsIn ⟨Nat.le_of_ble_eq_true rfl, Nat.le_of_ble_eq_true rfl⟩ rfl rfl ⟨Nat.zero_le _, Nat.zero_le _⟩ hl.1 rfl (Nat.le_of_ble_eq_true rfl) rfl dX6_count_81 (fun H locs Z => ?_)
      have h18 := Option.some.inj h17
      subst h18
      exact hRet _ _ _ _ Z dX6_count_84
    have h15 := if_n h9 c13
    clear h9
    by_cases c19 : v1_22 = 3
    · have h20 := if_p h15 c19
      clear h15
      refine x_tin (tgt := 85) C dX6_count_23 q1 c19 (by decide) (by decide) (by rfl) (by decide) ?_
      refine lv_aload_n C.1 C.2.1 dX6_count_85 rfl (lv_at hl 0 rfl) ?_
      refine x_get C Z 0 rfl rfl i_X6_X6_count (k := 0) (by decide) (List.mem_of_getElem? (i := 2) rfl) rfl dX6_count_86 ?_
      refine lv_aload_n C.1 C.2.1 dX6_count_89 rfl (lv_at hl 0 rfl) ?_
      refine x_get C Z 0 rfl rfl i_X6_X6_count (k := 10) (by decide) (List.mem_of_getElem? (i := 1) rfl) rfl dX6_count_90 ?_
      obtain ⟨r22, hr22, h23⟩ := bd_some h20
      clear h20
      refine x_callV_i_Q (As := [.int (iI sF)]) (rest := []) (q0 := 0) (X2 := (wF g aF (aH 0) (aP 0) (aT 0) (aC 0) (aB 0) (aQ 0) (aU 0) (aV 0) (aS 0) (aR 0) sF ++ (wH g aH sH ++ (wP g aP sP ++ (wT g aT sT_22 ++ (wC g aC (aK 0) rr sC_22 ++ (wS g aK sK_22 ++ (wB g aB sB ++ (wT g aQ sQ ++ (wT g aU sU ++ (wT g aV sV ++ (wS g aS sS ++ wS g aR sR)))))))))))) C Z fr_FHPTCKBQUVSR_1 (k_X2_lettersIn l g n aH sH sF r22 hr22) gX6_count_X2_lettersIn yk_X2_lettersIn ⟨Nat.le_of_ble_eq_true rfl, Nat.le_of_ble_eq_true rfl⟩ rfl rfl ⟨Nat.zero_le _, Nat.zero_le _⟩ hl.1 rfl (Nat.le_of_ble_eq_true rfl) rfl dX6_count_93 (fun H locs Z => ?_)
      have h24 := Option.some.inj h23
      subst h24
      exact hRet _ _ _ _ Z dX6_count_96
    have h21 := if_n h15 c19
    clear h15
    by_cases c25 : v1_22 = 4
    · have h26 := if_p h21 c25
      clear h21
      refine x_tin (tgt := 97) C dX6_count_23 q1 c25 (by decide) (by decide) (by rfl) (by decide) ?_
      refine lv_aload_n C.1 C.2.1 dX6_count_97 rfl (lv_at hl 0 rfl) ?_
      refine x_get C Z 0 rfl rfl i_X6_X6_count (k := 3) (by decide) (List.mem_of_getElem? (i := 3) rfl) rfl dX6_count_98 ?_
      obtain ⟨r28, hr28, h29⟩ := bd_some h26
      clear h26
      refine x_callV_i_P (As := []) (rest := []) (q0 := 0) (X2 := (wF g aF (aH 0) (aP 0) (aT 0) (aC 0) (aB 0) (aQ 0) (aU 0) (aV 0) (aS 0) (aR 0) sF ++ (wH g aH sH ++ (wP g aP sP ++ (wT g aT sT_22 ++ (wC g aC (aK 0) rr sC_22 ++ (wS g aK sK_22 ++ (wB g aB sB ++ (wT g aQ sQ ++ (wT g aU sU ++ (wT g aV sV ++ (wS g aS sS ++ wS g aR sR)))))))))))) C Z fr_FHPTCKBQUVSR_4_5 (k_X1_size l g n aC aK rr sC_22 sK_22 r28 hr28) gX6_count_X1_size yk_X1_size ⟨Nat.le_of_ble_eq_true rfl, Nat.le_of_ble_eq_true rfl⟩ rfl rfl ⟨Nat.zero_le _, Nat.zero_le _⟩ hl.1 rfl (Nat.le_of_ble_eq_true rfl) rfl dX6_count_101 (fun H locs Z => ?_)
      have h30 := Option.some.inj h29
      subst h30
      exact hRet _ _ _ _ Z dX6_count_104
    have h27 := if_n h21 c25
    clear h21
    by_cases c31 : v1_22 = 5
    · have h32 := if_p h27 c31
      clear h27
      refine x_tin (tgt := 105) C dX6_count_23 q1 c31 (by decide) (by decide) (by rfl) (by decide) ?_
      refine lv_aload_n C.1 C.2.1 dX6_count_105 rfl (lv_at hl 0 rfl) ?_
      refine x_get C Z 0 rfl rfl i_X6_X6_count (k := 3) (by decide) (List.mem_of_getElem? (i := 3) rfl) rfl dX6_count_106 ?_
      obtain ⟨r34, hr34, h35⟩ := bd_some h32
      clear h32
      refine x_callV_i_P (As := []) (rest := []) (q0 := 0) (X2 := (wF g aF (aH 0) (aP 0) (aT 0) (aC 0) (aB 0) (aQ 0) (aU 0) (aV 0) (aS 0) (aR 0) sF ++ (wH g aH sH ++ (wP g aP sP ++ (wT g aT sT_22 ++ (wC g aC (aK 0) rr sC_22 ++ (wS g aK sK_22 ++ (wB g aB sB ++ (wT g aQ sQ ++ (wT g aU sU ++ (wT g aV sV ++ (wS g aS sS ++ wS g aR sR)))))))))))) C Z fr_FHPTCKBQUVSR_4_5 (k_X1_allSteps l g n aC aK rr sC_22 sK_22 r34 hr34) gX6_count_X1_allSteps yk_X1_allSteps ⟨Nat.le_of_ble_eq_true rfl, Nat.le_of_ble_eq_true rfl⟩ rfl rfl ⟨Nat.zero_le _, Nat.zero_le _⟩ hl.1 rfl (Nat.le_of_ble_eq_true rfl) rfl dX6_count_109 (fun H locs Z => ?_)
      have h36 := Option.some.inj h35
      subst h36
      exact hRet _ _ _ _ Z dX6_count_112
    have h33 := if_n h27 c31
    clear h27
    refine x_tout (tgt := 113) C dX6_count_23 q1 (by omega) (by decide) ?_
    refine lv_aload_n C.1 C.2.1 dX6_count_113 rfl (lv_at hl 0 rfl) ?_
    refine x_get C Z 0 rfl rfl i_X6_X6_count (k := 3) (by decide) (List.mem_of_getElem? (i := 3) rfl) rfl dX6_count_114 ?_
    obtain ⟨r37, hr37, h38⟩ := bd_some h33
    clear h33
    refine x_callV_i_P (As := []) (rest := []) (q0 := 0) (X2 := (wF g aF (aH 0) (aP 0) (aT 0) (aC 0) (aB 0) (aQ 0) (aU 0) (aV 0) (aS 0) (aR 0) sF ++ (wH g aH sH ++ (wP g aP sP ++ (wT g aT sT_22 ++ (wC g aC (aK 0) rr sC_22 ++ (wS g aK sK_22 ++ (wB g aB sB ++ (wT g aQ sQ ++ (wT g aU sU ++ (wT g aV sV ++ (wS g aS sS ++ wS g aR sR)))))))))))) C Z fr_FHPTCKBQUVSR_4_5 (k_X1_longestRepeat l g n aC aK rr sC_22 sK_22 r37 hr37) gX6_count_X1_longestRepeat yk_X1_longestRepeat ⟨Nat.le_of_ble_eq_true rfl, Nat.le_of_ble_eq_true rfl⟩ rfl rfl ⟨Nat.zero_le _, Nat.zero_le _⟩ hl.1 rfl (Nat.le_of_ble_eq_true rfl) rfl dX6_count_117 (fun H locs Z => ?_)
    have h39 := Option.some.inj h38
    subst h39
    exact hRet _ _ _ _ Z dX6_count_120
  refine lv_iload_n C.1 C.2.1 dX6_count_0 rfl (lv_at hl 1 rfl) ?_
  have q40 := (ck_some hf).1
  have h41 := (ck_some hf).2
  clear hf
  refine x_if_lt (tgt := 10) C dX6_count_1 (by decide) q40 (fun c42 => ?_) (fun c42 => ?_)
  · have h43 := if_p h41 c42
    clear h41
    refine x_bipush C dX6_count_10 (by decide) ?_
    have h45 := Option.some.inj h43
    subst h45
    exact hRet _ _ _ _ Z dX6_count_12
  · have h44 := if_n h41 c42
    clear h41
    refine lv_iload_n C.1 C.2.1 dX6_count_4 rfl (lv_at hl 1 rfl) ?_
    refine x_bipush C dX6_count_5 (by decide) ?_
    refine x_icmp_le (tgt := 13) C dX6_count_7 (by decide) q40 (by decide) (fun c46 => ?_) (fun c46 => ?_)
    · have h47 := if_n h44 c46
      clear h44
      refine lv_iload_n C.1 C.2.1 dX6_count_13 rfl (lv_at hl 1 rfl) ?_
      refine x_iconst C dX6_count_14 ?_
      refine x_icmp_le (tgt := 22) C dX6_count_15 (by decide) q40 (by decide) (fun c49 => ?_) (fun c49 => ?_)
      · have h50 := if_n h47 c49
        clear h47
        exact hJ22 sT sC sK v1 _ _ _ h50 Z (lv_sub hl [0, 1] rfl)
      · have h51 := if_p h47 c49
        clear h47
        refine lv_aload_n C.1 C.2.1 dX6_count_18 rfl (lv_at hl 0 rfl) ?_
        obtain ⟨r52, hr52, h53⟩ := bd_some h51
        clear h51
        refine x_callV_v_id (As := []) (rest := []) (q0 := 0) C Z (k_X6_showClasses l g n aF aH aP aT aC aK aB aQ aU aV aS aR rr sF sH sP sT sC sK sB sQ sU sV sS sR r52 hr52) gX6_count_X6_showClasses yk_X6_showClasses ⟨Nat.le_of_ble_eq_true rfl, Nat.le_of_ble_eq_true rfl⟩ rfl rfl ⟨Nat.zero_le _, Nat.zero_le _⟩ hl.1 rfl (Nat.le_of_ble_eq_true rfl) rfl dX6_count_19 (fun H locs Z => ?_)
        exact hJ22 r52.1 r52.2.1 r52.2.2 v1 _ _ _ h53 Z (lv_sub hl [0, 1] rfl)
    · have h48 := if_p h44 c46
      clear h44
      refine x_bipush C dX6_count_10 (by decide) ?_
      have h54 := Option.some.inj h48
      subst h54
      exact hRet _ _ _ _ Z dX6_count_12
