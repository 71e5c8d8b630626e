abbrev rmX5_takePattern : Room := { frames := 2, cells := 0, slots := 0, locals := 43 }
theorem yk_X5_takePattern : xY yX5_takePattern RX5 cX5_takePattern 3 none wsX5_takePattern rmX5_takePattern 1 := ⟨⟨_, rfl⟩, by decide +kernel, rfl, rfl⟩
theorem i_X3_X5_takePattern : ∀ w ∈ u_ws RX3 TX3 2, w ∈ wsX5_takePattern := fun _ h => List.mem_cons_of_mem _ (List.mem_append_right _ h)
theorem i_X5_X5_takePattern : ∀ w ∈ u_ws RX5 TX5 8, w ∈ wsX5_takePattern := fun _ h => List.mem_cons_of_mem _ (List.mem_append_left _ (List.mem_append_right _ h))
set_option maxHeartbeats 4000000 in
set_option maxRecDepth 100000 in
theorem k_X5_takePattern (l : Launch) (g : xG) (n : Nat) (aT : Nat → Nat) (aP : Nat → Nat) (sT : TxtS) (sP : PadS) (r : TxtS) (hf : p_X5_takePattern n sT sP = some r) : xMv l yX5_takePattern wsX5_takePattern rmX5_takePattern g [.ref (aT 0), .ref (aP 0)] (wT g aT sT ++ wP g aP sP) (wT g aT r ++ wP g aP sP) := by
  refine x_ofW_v (own := RX5) (by decide) rfl rfl (Nat.le_of_ble_eq_true rfl) ?_
  intro p e s m args below meth c ls A QQ C hRet Z hl
  have hl : lv_has ls 3 [(0, .ref (aT 0)), (1, .ref (aP 0))] := hl
  unfold p_X5_takePattern at hf
  refine lv_aload_n C.1 C.2.1 dX5_takePattern_0 rfl (lv_at hl 0 rfl) ?_
  refine lv_aload_n C.1 C.2.1 dX5_takePattern_1 rfl (lv_at hl 1 rfl) ?_
  obtain ⟨r1, hr1, h2⟩ := bd_some hf
  clear hf
  refine x_callV_i_J (As := []) (rest := [.ref (aT 0)]) (q0 := 0) (ws2 := wT g aT sT ++ wP g aP sP) C Z fr_TP_1 (k_X3_size l g n aP sP r1 hr1) gX5_takePattern_X3_size yk_X3_size ⟨Nat.le_of_ble_eq_true rfl, Nat.le_of_ble_eq_true rfl⟩ rfl rfl ⟨Nat.zero_le _, Nat.zero_le _⟩ hl.1 rfl (Nat.le_of_ble_eq_true rfl) rfl dX5_takePattern_2 (fun H locs Z => ?_)
  obtain ⟨r3, hr3, h4⟩ := bd_some h2
  clear h2
  refine x_callV_v_J (As := [.int (iI r1)]) (rest := []) (q0 := 0) (ws2 := wT g aT r3 ++ wP g aP sP) C Z fr_TP_0 (k_X5_becomeOneWord l g n aT sT r1 r3 hr3) gX5_takePattern_X5_becomeOneWord yk_X5_becomeOneWord ⟨Nat.le_of_ble_eq_true rfl, Nat.le_of_ble_eq_true rfl⟩ rfl rfl ⟨Nat.zero_le _, Nat.zero_le _⟩ hl.1 rfl (Nat.le_of_ble_eq_true rfl) rfl dX5_takePattern_5 (fun H locs Z => ?_)
  refine x_iconst C dX5_takePattern_8 ?_
  refine lv_istore_n (lv' := [(2, .int (iI 0)), (0, .ref (aT 0)), (1, .ref (aP 0))]) C.1 C.2.1 dX5_takePattern_9 rfl hl (by decide) rfl (fun ls hl => ?_)
  obtain ⟨ex10, hl10, h29⟩ := bd_some h4
  clear h4
  have hK10 : ∀ (H : Heap) (locs : List Loc) (ls : Array Slot), xSt g A s (wT g aT (ex10, r3.words, r3.places, r3.rests, r3.starts, r3.wordCount, r3.length, r3.version) ++ wP g aP sP) H locs → lv_has ls 3 [] → W p l e rmX5_takePattern s m args below meth c H locs 0 0 QQ (F0 m 38 ls []) := by
    intro H locs ls Z hl
    have h30 := h29
    clear h29
    have h31 := Option.some.inj h30
    subst h31
    exact hRet _ _ _ _ Z dX5_takePattern_38
  have hL10 : ∀ (k10 : Nat) (z10 : Int × Row) (H : Heap) (locs : List Loc) (ls : Array Slot), lp (p_X5_takePattern_b10 n r3 sP) k10 z10 = some ex10 → xSt g A s (wT g aT (z10.2, r3.words, r3.places, r3.rests, r3.starts, r3.wordCount, r3.length, r3.version) ++ wP g aP sP) H locs → lv_has ls 3 [(0, .ref (aT 0)), (1, .ref (aP 0)), (2, .int (iI z10.1))] → W p l e rmX5_takePattern s m args below meth c H locs 0 0 QQ (F0 m 10 ls []) := by
    intro k10
    induction k10 with
    | zero => intro z10 H locs ls h; exact (lp_0 h).elim
    | succ k10 ih10 =>
      intro z10 H locs ls h Z hl
      obtain ⟨x10, hb10, hx10⟩ := lp_s h
      clear h
      unfold p_X5_takePattern_b10 at hb10
      refine lv_iload_n C.1 C.2.1 dX5_takePattern_10 rfl (lv_at hl 2 rfl) ?_
      refine lv_aload_n C.1 C.2.1 dX5_takePattern_11 rfl (lv_at hl 0 rfl) ?_
      refine x_get C Z 0 rfl rfl i_X5_X5_takePattern (k := 6) (by decide) (List.mem_of_getElem? (i := 1) rfl) rfl dX5_takePattern_12 ?_
      have q17 := (ck_some hb10).1
      have h18 := (ck_some hb10).2
      clear hb10
      have q19 := (ck_some h18).1
      have h20 := (ck_some h18).2
      clear h18
      refine x_icmp_ge (tgt := 38) C dX5_takePattern_15 (by decide) q17 q19 (fun c21 => ?_) (fun c21 => ?_)
      · have h22 := if_n h20 c21
        clear h20
        cases h22
        have h24 := lp_R hx10
        subst h24
        exact hK10 _ _ _ Z (lv_sub hl [] rfl)
      · have h23 := if_p h20 c21
        clear h20
        refine lv_aload_n C.1 C.2.1 dX5_takePattern_18 rfl (lv_at hl 0 rfl) ?_
        refine x_get C Z 0 rfl rfl i_X5_X5_takePattern (k := 0) (by decide) (List.mem_of_getElem? (i := 2) rfl) rfl dX5_takePattern_19 ?_
        refine lv_iload_n C.1 C.2.1 dX5_takePattern_22 rfl (lv_at hl 2 rfl) ?_
        refine lv_aload_n C.1 C.2.1 dX5_takePattern_23 rfl (lv_at hl 1 rfl) ?_
        refine lv_iload_n C.1 C.2.1 dX5_takePattern_24 rfl (lv_at hl 2 rfl) ?_
        obtain ⟨r25, hr25, h26⟩ := bd_some h23
        clear h23
        refine x_callV_i_J (As := [.int (iI z10.1)]) (rest := [.int (iI z10.1), .ref (aT 1)]) (q0 := 0) (ws2 := wT g aT (z10.2, r3.words, r3.places, r3.rests, r3.starts, r3.wordCount, r3.length, r3.version) ++ wP g aP sP) C Z fr_TP_1 (k_X3_characterAt l g n aP sP z10.1 r25 hr25) gX5_takePattern_X3_characterAt yk_X3_characterAt ⟨Nat.le_of_ble_eq_true rfl, Nat.le_of_ble_eq_true rfl⟩ rfl rfl ⟨Nat.zero_le _, Nat.zero_le _⟩ hl.1 rfl (Nat.le_of_ble_eq_true rfl) rfl dX5_takePattern_25 (fun H locs Z => ?_)
        refine x_bipush C dX5_takePattern_28 (by decide) ?_
        refine x_isub C dX5_takePattern_30 ?_
        have q27 := (ix_some h26).1
        have h28 := (ix_some h26).2
        clear h26
        refine x_iast (ws2 := wT g aT (up z10.2 z10.1 (r25 - 97), r3.words, r3.places, r3.rests, r3.starts, r3.wordCount, r3.length, r3.version) ++ wP g aP sP) C Z 1 rfl (by decide) q27 dX5_takePattern_31 rfl (fun H locs Z => ?_)
        refine x_iinc (lv' := [(2, .int (iI (z10.1 + 1))), (0, .ref (aT 0)), (1, .ref (aP 0))]) C dX5_takePattern_32 hl (k := 2) rfl (by decide) rfl (fun ls hl => ?_)
        refine lv_goto (tgt := 10) C.1 C.2.1 dX5_takePattern_35 (by decide) ?_
        cases h28
        exact ih10 (z10.1 + 1, up z10.2 z10.1 (r25 - 97)) _ _ _ (lp_L2 hx10) Z (lv_sub hl [1, 2, 0] rfl)
  exact hL10 n (0, r3.letters) _ _ _ hl10 Z (lv_sub hl [1, 2, 0] rfl)
abbrev rmX6_readPattern : Room := { frames := 3, cells := 0, slots := 0, locals := 65 }
theorem yk_X6_readPattern : xY yX6_readPattern RX6 cX6_readPattern 1 (some .boolean) wsX6_readPattern rmX6_readPattern 0 := ⟨⟨_, rfl⟩, by decide +kernel, rfl, rfl⟩
theorem i_X3_X6_readPattern : ∀ w ∈ u_ws RX3 TX3 2, w ∈ wsX6_readPattern := fun _ h => List.mem_cons_of_mem _ (List.mem_append_left _ (List.mem_append_right _ h))
theorem i_X5_X6_readPattern : ∀ w ∈ u_ws RX5 TX5 8, w ∈ wsX6_readPattern := fun _ h => List.mem_cons_of_mem _ (List.mem_append_right _ h)
theorem i_X6_X6_readPattern : ∀ w ∈ u_ws RX6 TX6 11, w ∈ wsX6_readPattern := fun _ h => List.mem_cons_of_mem _ (List.mem_append_left _ (List.mem_append_left _ (List.mem_append_right _ h)))
set_option maxHeartbeats 4000000 in
set_option maxRecDepth 100000 in
theorem k_X6_readPattern (l : Launch) (g : xG) (n : Nat) (aF : Nat → Nat) (aH : Nat → Nat) (aP : Nat → Nat) (aT : Nat → Nat) (aC : Nat → Nat) (aK : Nat → Nat) (aB : Nat → Nat) (aQ : Nat → Nat) (aU : Nat → Nat) (aV : Nat → Nat) (aS : Nat → Nat) (aR : Nat → Nat) (rr : Nat → Nat) (sF : Int) (sH : HisS) (sP : PadS) (sT : TxtS) (sC : ClsS) (sK : SwpS) (sB : BegS) (sQ : TxtS) (sU : TxtS) (sV : TxtS) (sS : SwpS) (sR : SwpS) (r : Int × TxtS) (hf : p_X6_readPattern n sP sQ = some r) : xMi l yX6_readPattern wsX6_readPattern rmX6_readPattern g [.ref (aF 0)] ((wF g aF (aH 0) (aP 0) (aT 0) (aC 0) (aB 0) (aQ 0) (aU 0) (aV 0) (aS 0) (aR 0) sF ++ (wH g aH sH ++ (wP g aP sP ++ (wT g aT sT ++ (wC g aC (aK 0) rr sC ++ (wS g aK sK ++ (wB g aB sB ++ (wT g aQ sQ ++ (wT g aU sU ++ (wT g aV sV ++ (wS g aS sS ++ wS g aR sR))))))))))) ++ wR g rr sC.classOf) ((wF g aF (aH 0) (aP 0) (aT 0) (aC 0) (aB 0) (aQ 0) (aU 0) (aV 0) (aS 0) (aR 0) sF ++ (wH g aH sH ++ (wP g aP sP ++ (wT g aT sT ++ (wC g aC (aK 0) rr sC ++ (wS g aK sK ++ (wB g aB sB ++ (wT g aQ r.2 ++ (wT g aU sU ++ (wT g aV sV ++ (wS g aS sS ++ wS g aR sR))))))))))) ++ wR g rr sC.classOf) r.1 := by
  refine x_ofW_z (own := RX6) (by decide) rfl rfl (Nat.le_of_ble_eq_true rfl) ?_
  intro p e s m args below meth c ls A QQ C hRet Z hl
  have hl : lv_has ls 1 [(0, .ref (aF 0))] := hl
  unfold p_X6_readPattern at hf
  refine lv_aload_n C.1 C.2.1 dX6_readPattern_0 rfl (lv_at hl 0 rfl) ?_
  refine x_get C Z 0 rfl rfl i_X6_X6_readPattern (k := 1) (by decide) (List.mem_of_getElem? (i := 1) rfl) rfl dX6_readPattern_1 ?_
  obtain ⟨r1, hr1, h2⟩ := bd_some hf
  clear hf
  refine x_callV_i_Q (As := []) (rest := []) (q0 := 0) (X2 := (wF g aF (aH 0) (aP 0) (aT 0) (aC 0) (aB 0) (aQ 0) (aU 0) (aV 0) (aS 0) (aR 0) sF ++ (wH g aH sH ++ (wP g aP sP ++ (wT g aT sT ++ (wC g aC (aK 0) rr sC ++ (wS g aK sK ++ (wB g aB sB ++ (wT g aQ sQ ++ (wT g aU sU ++ (wT g aV sV ++ (wS g aS sS ++ wS g aR sR)))))))))))) C Z fr_FHPTCKBQUVSR_2 (k_X3_faultAsPattern l g n aP sP r1 hr1) gX6_readPattern_X3_faultAsPattern yk_X3_faultAsPattern ⟨Nat.le_of_ble_eq_true rfl, Nat.le_of_ble_eq_true rfl⟩ rfl rfl ⟨Nat.zero_le _, Nat.zero_le _⟩ hl.1 rfl (Nat.le_of_ble_eq_true rfl) rfl dX6_readPattern_4 (fun H locs Z => ?_)
  refine x_bipush C dX6_readPattern_7 (by decide) ?_
  have q3 := (ck_some h2).1
  have h4 := (ck_some h2).2
  clear h2
  refine x_icmp_eq (tgt := 14) C dX6_readPattern_9 (by decide) q3 (by decide) (fun c5 => ?_) (fun c5 => ?_)
  · have h6 := if_p h4 c5
    clear h4
    refine lv_aload_n C.1 C.2.1 dX6_readPattern_14 rfl (lv_at hl 0 rfl) ?_
    refine x_get C Z 0 rfl rfl i_X6_X6_readPattern (k := 5) (by decide) (List.mem_of_getElem? (i := 2) rfl) rfl dX6_readPattern_15 ?_
    refine lv_aload_n C.1 C.2.1 dX6_readPattern_18 rfl (lv_at hl 0 rfl) ?_
    refine x_get C Z 0 rfl rfl i_X6_X6_readPattern (k := 1) (by decide) (List.mem_of_getElem? (i := 1) rfl) rfl dX6_readPattern_19 ?_
    obtain ⟨r8, hr8, h9⟩ := bd_some h6
    clear h6
    refine x_callV_v_Q (As := [.ref (aP 0)]) (rest := []) (q0 := 0) (X2 := (wF g aF (aH 0) (aP 0) (aT 0) (aC 0) (aB 0) (aQ 0) (aU 0) (aV 0) (aS 0) (aR 0) sF ++ (wH g aH sH ++ (wP g aP sP ++ (wT g aT sT ++ (wC g aC (aK 0) rr sC ++ (wS g aK sK ++ (wB g aB sB ++ (wT g aQ r8 ++ (wT g aU sU ++ (wT g aV sV ++ (wS g aS sS ++ wS g aR sR)))))))))))) C Z fr_FHPTCKBQUVSR_7_2 (k_X5_takePattern l g n aQ aP sQ sP r8 hr8) gX6_readPattern_X5_takePattern yk_X5_takePattern ⟨Nat.le_of_ble_eq_true rfl, Nat.le_of_ble_eq_true rfl⟩ rfl rfl ⟨Nat.zero_le _, Nat.zero_le _⟩ hl.1 rfl (Nat.le_of_ble_eq_true rfl) rfl dX6_readPattern_22 (fun H locs Z => ?_)
    refine x_iconst C dX6_readPattern_25 ?_
    have h10 := Option.some.inj h9
    subst h10
    exact hRet _ _ _ _ (x_bool (Or.inr rfl)) Z dX6_readPattern_26
  · have h7 := if_n h4 c5
    clear h4
    refine x_iconst C dX6_readPattern_12 ?_
    have h11 := Option.some.inj h7
    subst h11
    exact hRet _ _ _ _ (x_bool (Or.inl rfl)) Z dX6_readPattern_13
abbrev rmX5_hasEnd : Room := { frames := 2, cells := 0, slots := 0, locals := 42 }
theorem yk_X5_hasEnd : xY yX5_hasEnd RX5 cX5_hasEnd 5 (some .boolean) wsX5_hasEnd rmX5_hasEnd 2 := ⟨⟨_, rfl⟩, by decide +kernel, rfl, rfl⟩
theorem i_X5_X5_hasEnd : ∀ w ∈ u_ws RX5 TX5 8, w ∈ wsX5_hasEnd := fun _ h => List.mem_cons_of_mem _ (List.mem_append_right _ h)
set_option maxHeartbeats 4000000 in
set_option maxRecDepth 100000 in
theorem k_X5_hasEnd (l : Launch) (g : xG) (n : Nat) (aT : Nat → Nat) (aU : Nat → Nat) (sT : TxtS) (sU : TxtS) (v2 : Int) (r : Int) (hf : p_X5_hasEnd n sT sU v2 = some r) : xMi l yX5_hasEnd wsX5_hasEnd rmX5_hasEnd g [.ref (aT 0), .ref (aU 0), .int (iI v2)] (wT g aT sT ++ wT g aU sU) (wT g aT sT ++ wT g aU sU) r := by
  refine x_ofW_z (own := RX5) (by decide) rfl rfl (Nat.le_of_ble_eq_true rfl) ?_
  intro p e s m args below meth c ls A QQ C hRet Z hl
  have hl : lv_has ls 5 [(0, .ref (aT 0)), (1, .ref (aU 0)), (2, .int (iI v2))] := hl
  unfold p_X5_hasEnd at hf
  refine lv_aload_n C.1 C.2.1 dX5_hasEnd_0 rfl (lv_at hl 0 rfl) ?_
  refine lv_iload_n C.1 C.2.1 dX5_hasEnd_1 rfl (lv_at hl 2 rfl) ?_
  obtain ⟨r1, hr1, h2⟩ := bd_some hf
  clear hf
  refine x_callV_i_J (As := [.int (iI v2)]) (rest := []) (q0 := 0) (ws2 := wT g aT sT ++ wT g aU sU) C Z fr_TU_0 (k_X5_has l g n aT sT v2 r1 hr1) gX5_hasEnd_X5_has yk_X5_has ⟨Nat.le_of_ble_eq_true rfl, Nat.le_of_ble_eq_true rfl⟩ rfl rfl ⟨Nat.zero_le _, Nat.zero_le _⟩ hl.1 rfl (Nat.le_of_ble_eq_true rfl) rfl dX5_hasEnd_2 (fun H locs Z => ?_)
  have q3 := (ck_some h2).1
  have h4 := (ck_some h2).2
  clear h2
  refine x_if_eq (tgt := 22) C dX5_hasEnd_5 (by decide) q3 (fun c5 => ?_) (fun c5 => ?_)
  · have h6 := if_p h4 c5
    clear h4
    refine x_iconst C dX5_hasEnd_22 ?_
    have h8 := Option.some.inj h6
    subst h8
    exact hRet _ _ _ _ (x_bool (Or.inl rfl)) Z dX5_hasEnd_23
  · have h7 := if_n h4 c5
    clear h4
    refine lv_aload_n C.1 C.2.1 dX5_hasEnd_8 rfl (lv_at hl 0 rfl) ?_
    refine lv_iload_n C.1 C.2.1 dX5_hasEnd_9 rfl (lv_at hl 2 rfl) ?_
    obtain ⟨r9, hr9, h10⟩ := bd_some h7
    clear h7
    refine x_callV_i_J (As := [.int (iI v2)]) (rest := []) (q0 := 0) (ws2 := wT g aT sT ++ wT g aU sU) C Z fr_TU_0 (k_X5_placeAt l g n aT sT v2 r9 hr9) gX5_hasEnd_X5_placeAt yk_X5_placeAt ⟨Nat.le_of_ble_eq_true rfl, Nat.le_of_ble_eq_true rfl⟩ rfl rfl ⟨Nat.zero_le _, Nat.zero_le _⟩ hl.1 rfl (Nat.le_of_ble_eq_true rfl) rfl dX5_hasEnd_10 (fun H locs Z => ?_)
    refine x_iconst C dX5_hasEnd_13 ?_
    refine x_iadd C dX5_hasEnd_14 ?_
    refine lv_aload_n C.1 C.2.1 dX5_hasEnd_15 rfl (lv_at hl 1 rfl) ?_
    obtain ⟨r11, hr11, h12⟩ := bd_some h10
    clear h10
    refine x_callV_i_J (As := []) (rest := [.int (iI (r9 + 1))]) (q0 := 0) (ws2 := wT g aT sT ++ wT g aU sU) C Z fr_TU_1 (k_X5_length l g n aU sU r11 hr11) gX5_hasEnd_X5_length yk_X5_length ⟨Nat.le_of_ble_eq_true rfl, Nat.le_of_ble_eq_true rfl⟩ rfl rfl ⟨Nat.zero_le _, Nat.zero_le _⟩ hl.1 rfl (Nat.le_of_ble_eq_true rfl) rfl dX5_hasEnd_16 (fun H locs Z => ?_)
    have q13 := (ck_some h12).1
    have h14 := (ck_some h12).2
    clear h12
    have q15 := (ck_some h14).1
    have h16 := (ck_some h14).2
    clear h14
    refine x_icmp_ge (tgt := 24) C dX5_hasEnd_19 (by decide) q13 q15 (fun c17 => ?_) (fun c17 => ?_)
    · have h18 := if_n h16 c17
      clear h16
      refine lv_aload_n C.1 C.2.1 dX5_hasEnd_24 rfl (lv_at hl 1 rfl) ?_
      obtain ⟨r20, hr20, h21⟩ := bd_some h18
      clear h18
      refine x_callV_i_J (As := []) (rest := []) (q0 := 0) (ws2 := wT g aT sT ++ wT g aU sU) C Z fr_TU_1 (k_X5_length l g n aU sU r20 hr20) gX5_hasEnd_X5_length yk_X5_length ⟨Nat.le_of_ble_eq_true rfl, Nat.le_of_ble_eq_true rfl⟩ rfl rfl ⟨Nat.zero_le _, Nat.zero_le _⟩ hl.1 rfl (Nat.le_of_ble_eq_true rfl) rfl dX5_hasEnd_25 (fun H locs Z => ?_)
      refine x_iconst C dX5_hasEnd_28 ?_
      refine x_isub C dX5_hasEnd_29 ?_
      refine lv_istore_n (lv' := [(3, .int (iI (r20 - 1))), (0, .ref (aT 0)), (1, .ref (aU 0)), (2, .int (iI v2))]) C.1 C.2.1 dX5_hasEnd_30 rfl hl (by decide) rfl (fun ls hl => ?_)
      refine x_iconst C dX5_hasEnd_31 ?_
      refine lv_istore (lv' := [(4, .int (iI 0)), (3, .int (iI (r20 - 1))), (0, .ref (aT 0)), (1, .ref (aU 0)), (2, .int (iI v2))]) C.1 C.2.1 dX5_hasEnd_32 hl (by decide) rfl (fun ls hl => ?_)
      obtain ⟨ex34, hl34, h64⟩ := bd_some h21
      clear h21
      have hK34 : ∀ (e34 : Unit) (H : Heap) (locs : List Loc) (ls : Array Slot), ex34 = .inr e34 → xSt g A s (wT g aT sT ++ wT g aU sU) H locs → lv_has ls 5 [] → W p l e rmX5_hasEnd s m args below meth c H locs 0 0 QQ (F0 m 67 ls []) := by
        intro e34 H locs ls he Z hl
        subst he
        have h65 := (Sum.elim_inr ..).symm.trans h64
        clear h64
        refine x_iconst C dX5_hasEnd_67 ?_
        have h66 := Option.some.inj h65
        subst h66
        exact hRet _ _ _ _ (x_bool (Or.inr rfl)) Z dX5_hasEnd_68
      have hL34 : ∀ (k34 : Nat) (z34 : Int) (H : Heap) (locs : List Loc) (ls : Array Slot), lp (p_X5_hasEnd_b34 n sT sU v2 (r20 - 1)) k34 z34 = some ex34 → xSt g A s (wT g aT sT ++ wT g aU sU) H locs → lv_has ls 5 [(0, .ref (aT 0)), (1, .ref (aU 0)), (2, .int (iI v2)), (3, .int (iI (r20 - 1))), (4, .int (iI z34))] → W p l e rmX5_hasEnd s m args below meth c H locs 0 0 QQ (F0 m 34 ls []) := by
        intro k34
        induction k34 with
        | zero => intro z34 H locs ls h; exact (lp_0 h).elim
        | succ k34 ih34 =>
          intro z34 H locs ls h Z hl
          obtain ⟨x34, hb34, hx34⟩ := lp_s h
          clear h
          unfold p_X5_hasEnd_b34 at hb34
          refine lv_iload C.1 C.2.1 dX5_hasEnd_34 (lv_at hl 4 rfl) ?_
          refine lv_iload_n C.1 C.2.1 dX5_hasEnd_36 rfl (lv_at hl 3 rfl) ?_
          have q43 := (ck_some hb34).1
          have h44 := (ck_some hb34).2
          clear hb34
          have q45 := (ck_some h44).1
          have h46 := (ck_some h44).2
          clear h44
          refine x_icmp_gt (tgt := 67) C dX5_hasEnd_37 (by decide) q43 q45 (fun c47 => ?_) (fun c47 => ?_)
          · have h48 := if_p h46 c47
            clear h46
            cases h48
            exact hK34 () _ _ _ (lp_R hx34).symm Z (lv_sub hl [] rfl)
          · have h49 := if_n h46 c47
            clear h46
            refine lv_aload_n C.1 C.2.1 dX5_hasEnd_40 rfl (lv_at hl 0 rfl) ?_
            refine lv_iload_n C.1 C.2.1 dX5_hasEnd_41 rfl (lv_at hl 2 rfl) ?_
            refine lv_iload C.1 C.2.1 dX5_hasEnd_42 (lv_at hl 4 rfl) ?_
            refine x_isub C dX5_hasEnd_44 ?_
            obtain ⟨r50, hr50, h51⟩ := bd_some h49
            clear h49
            refine x_callV_i_J (As := [.int (iI (v2 - z34))]) (rest := []) (q0 := 0) (ws2 := wT g aT sT ++ wT g aU sU) C Z fr_TU_0 (k_X5_letterAt l g n aT sT (v2 - z34) r50 hr50) gX5_hasEnd_X5_letterAt yk_X5_letterAt ⟨Nat.le_of_ble_eq_true rfl, Nat.le_of_ble_eq_true rfl⟩ rfl rfl ⟨Nat.zero_le _, Nat.zero_le _⟩ hl.1 rfl (Nat.le_of_ble_eq_true rfl) rfl dX5_hasEnd_45 (fun H locs Z => ?_)
            refine lv_aload_n C.1 C.2.1 dX5_hasEnd_48 rfl (lv_at hl 1 rfl) ?_
            refine lv_iload_n C.1 C.2.1 dX5_hasEnd_49 rfl (lv_at hl 3 rfl) ?_
            refine lv_iload C.1 C.2.1 dX5_hasEnd_50 (lv_at hl 4 rfl) ?_
            refine x_isub C dX5_hasEnd_52 ?_
            obtain ⟨r52, hr52, h53⟩ := bd_some h51
            clear h51
            refine x_callV_i_J (As := [.int (iI ((r20 - 1) - z34))]) (rest := [.int (iI r50)]) (q0 := 0) (ws2 := wT g aT sT ++ wT g aU sU) C Z fr_TU_1 (k_X5_letterAt l g n aU sU ((r20 - 1) - z34) r52 hr52) gX5_hasEnd_X5_letterAt yk_X5_letterAt ⟨Nat.le_of_ble_eq_true rfl, Nat.le_of_ble_eq_true rfl⟩ rfl rfl ⟨Nat.zero_le _, Nat.zero_le _⟩ hl.1 rfl (Nat.le_of_ble_eq_true rfl) rfl dX5_hasEnd_53 (fun H locs Z => ?_)
            have q54 := (ck_some h53).1
            have h55 := (ck_some h53).2
            clear h53
            have q56 := (ck_some h55).1
            have h57 := (ck_some h55).2
            clear h55
            refine x_icmp_eq (tgt := 61) C dX5_hasEnd_56 (by decide) q54 q56 (fun c58 => ?_) (fun c58 => ?_)
            · have h59 := if_p h57 c58
              clear h57
              refine x_iinc (lv' := [(4, .int (iI (z34 + 1))), (0, .ref (aT 0)), (1, .ref (aU 0)), (2, .int (iI v2)), (3, .int (iI (r20 - 1)))]) C dX5_hasEnd_61 hl (k := 4) rfl (by decide) rfl (fun ls hl => ?_)
              refine lv_goto (tgt := 34) C.1 C.2.1 dX5_hasEnd_64 (by decide) ?_
              cases h59
              exact ih34 (z34 + 1) _ _ _ (lp_L2 hx34) Z (lv_sub hl [1, 2, 3, 4, 0] rfl)
            · have h60 := if_n h57 c58
              clear h57
              refine x_iconst C dX5_hasEnd_59 ?_
              cases h60
              have h61 := lp_R hx34
              subst h61
              have h62 := (Sum.elim_inl ..).symm.trans h64
              have h63 := Option.some.inj h62
              subst h63
              exact hRet _ _ _ _ (x_bool (Or.inl rfl)) Z dX5_hasEnd_60
      exact hL34 n 0 _ _ _ hl34 Z (lv_sub hl [2, 3, 4, 1, 0] rfl)
    · have h19 := if_p h16 c17
      clear h16
      refine x_iconst C dX5_hasEnd_22 ?_
      have h67 := Option.some.inj h19
      subst h67
      exact hRet _ _ _ _ (x_bool (Or.inl rfl)) Z dX5_hasEnd_23
abbrev rmX5_endNumber : Room := { frames := 3, cells := 0, slots := 0, locals := 66 }
theorem yk_X5_endNumber : xY yX5_endNumber RX5 cX5_endNumber 5 (some .int) wsX5_endNumber rmX5_endNumber 2 := ⟨⟨_, rfl⟩, by decide +kernel, rfl, rfl⟩
theorem i_X5_X5_endNumber : ∀ w ∈ u_ws RX5 TX5 8, w ∈ wsX5_endNumber := fun _ h => List.mem_cons_of_mem _ (List.mem_append_right _ h)
set_option maxHeartbeats 4000000 in
set_option maxRecDepth 100000 in
theorem k_X5_endNumber (l : Launch) (g : xG) (n : Nat) (aT : Nat → Nat) (aU : Nat → Nat) (sT : TxtS) (sU : TxtS) (v2 : Int) (r : Int) (hf : p_X5_endNumber n sT sU v2 = some r) : xMi l yX5_endNumber wsX5_endNumber rmX5_endNumber g [.ref (aT 0), .ref (aU 0), .int (iI v2)] (wT g aT sT ++ wT g aU sU) (wT g aT sT ++ wT g aU sU) r := by
  refine x_ofW_i (own := RX5) (by decide) rfl rfl (Nat.le_of_ble_eq_true rfl) ?_
  intro p e s m args below meth c ls A QQ C hRet Z hl
  have hl : lv_has ls 5 [(0, .ref (aT 0)), (1, .ref (aU 0)), (2, .int (iI v2))] := hl
  unfold p_X5_endNumber at hf
  refine lv_iload_n C.1 C.2.1 dX5_endNumber_0 rfl (lv_at hl 2 rfl) ?_
  refine lv_istore_n (lv' := [(3, .int (iI v2)), (0, .ref (aT 0)), (1, .ref (aU 0)), (2, .int (iI v2))]) C.1 C.2.1 dX5_endNumber_1 rfl hl (by decide) rfl (fun ls hl => ?_)
  refine x_iconst C dX5_endNumber_2 ?_
  refine lv_istore (lv' := [(4, .int (iI 0)), (3, .int (iI v2)), (0, .ref (aT 0)), (1, .ref (aU 0)), (2, .int (iI v2))]) C.1 C.2.1 dX5_endNumber_3 hl (by decide) rfl (fun ls hl => ?_)
  obtain ⟨ex5, hl5, h51⟩ := bd_some hf
  clear hf
  have hK5 : ∀ (e5 : Unit) (H : Heap) (locs : List Loc) (ls : Array Slot), ex5 = .inr e5 → xSt g A s (wT g aT sT ++ wT g aU sU) H locs → lv_has ls 5 [] → W p l e rmX5_endNumber s m args below meth c H locs 0 0 QQ (F0 m 44 ls []) := by
    intro e5 H locs ls he Z hl
    subst he
    have h52 := (Sum.elim_inr ..).symm.trans h51
    clear h51
    refine x_bipush C dX5_endNumber_44 (by decide) ?_
    have h53 := Option.some.inj h52
    subst h53
    exact hRet _ _ _ _ Z dX5_endNumber_46
  have hL5 : ∀ (k5 : Nat) (z5 : Int × Int) (H : Heap) (locs : List Loc) (ls : Array Slot), lp (p_X5_endNumber_b5 n sT sU) k5 z5 = some ex5 → xSt g A s (wT g aT sT ++ wT g aU sU) H locs → lv_has ls 5 [(0, .ref (aT 0)), (1, .ref (aU 0)), (3, .int (iI z5.1)), (4, .int (iI z5.2))] → W p l e rmX5_endNumber s m args below meth c H locs 0 0 QQ (F0 m 5 ls []) := by
    intro k5
    induction k5 with
    | zero => intro z5 H locs ls h; exact (lp_0 h).elim
    | succ k5 ih5 =>
      intro z5 H locs ls h Z hl
      obtain ⟨x5, hb5, hx5⟩ := lp_s h
      clear h
      unfold p_X5_endNumber_b5 at hb5
      refine lv_iload C.1 C.2.1 dX5_endNumber_5 (lv_at hl 3 rfl) ?_
      refine lv_aload_n C.1 C.2.1 dX5_endNumber_7 rfl (lv_at hl 0 rfl) ?_
      refine x_get C Z 0 rfl rfl i_X5_X5_endNumber (k := 6) (by decide) (List.mem_of_getElem? (i := 1) rfl) rfl dX5_endNumber_8 ?_
      have q26 := (ck_some hb5).1
      have h27 := (ck_some hb5).2
      clear hb5
      have q28 := (ck_some h27).1
      have h29 := (ck_some h27).2
      clear h27
      refine x_icmp_ge (tgt := 44) C dX5_endNumber_11 (by decide) q26 q28 (fun c30 => ?_) (fun c30 => ?_)
      · have h31 := if_n h29 c30
        clear h29
        cases h31
        exact hK5 () _ _ _ (lp_R hx5).symm Z (lv_sub hl [] rfl)
      · have h32 := if_p h29 c30
        clear h29
        refine lv_iload_n C.1 C.2.1 dX5_endNumber_14 rfl (lv_at hl 2 rfl) ?_
        have q33 := (ck_some h32).1
        have h34 := (ck_some h32).2
        clear h32
        refine x_if_lt (tgt := 44) C dX5_endNumber_15 (by decide) q33 (fun c35 => ?_) (fun c35 => ?_)
        · have h36 := if_p h34 c35
          clear h34
          cases h36
          exact hK5 () _ _ _ (lp_R hx5).symm Z (lv_sub hl [] rfl)
        · have h37 := if_n h34 c35
          clear h34
          refine lv_aload_n C.1 C.2.1 dX5_endNumber_18 rfl (lv_at hl 0 rfl) ?_
          refine lv_aload_n C.1 C.2.1 dX5_endNumber_19 rfl (lv_at hl 1 rfl) ?_
          refine lv_iload C.1 C.2.1 dX5_endNumber_20 (lv_at hl 3 rfl) ?_
          obtain ⟨r38, hr38, h39⟩ := bd_some h37
          clear h37
          refine x_callV_i_id (As := [.ref (aU 0), .int (iI z5.2)]) (rest := []) (q0 := 0) C Z (k_X5_hasEnd l g n aT aU sT sU z5.2 r38 hr38) gX5_endNumber_X5_hasEnd yk_X5_hasEnd ⟨Nat.le_of_ble_eq_true rfl, Nat.le_of_ble_eq_true rfl⟩ rfl rfl ⟨Nat.zero_le _, Nat.zero_le _⟩ hl.1 rfl (Nat.le_of_ble_eq_true rfl) rfl dX5_endNumber_22 (fun H locs Z => ?_)
          have q40 := (ck_some h39).1
          have h41 := (ck_some h39).2
          clear h39
          refine x_if_eq (tgt := 38) C dX5_endNumber_25 (by decide) q40 (fun c42 => ?_) (fun c42 => ?_)
          · have h43 := if_p h41 c42
            clear h41
            refine x_iinc (lv' := [(4, .int (iI (z5.2 + 1))), (0, .ref (aT 0)), (1, .ref (aU 0)), (3, .int (iI z5.1))]) C dX5_endNumber_38 hl (k := 3) rfl (by decide) rfl (fun ls hl => ?_)
            refine lv_goto (tgt := 5) C.1 C.2.1 dX5_endNumber_41 (by decide) ?_
            cases h43
            exact ih5 (z5.1, z5.2 + 1) _ _ _ (lp_L2 hx5) Z (lv_sub hl [1, 2, 3, 0] rfl)
          · have h44 := if_n h41 c42
            clear h41
            refine lv_iload_n C.1 C.2.1 dX5_endNumber_28 rfl (lv_at hl 2 rfl) ?_
            refine x_if_ne (tgt := 35) C dX5_endNumber_29 (by decide) q33 (fun c45 => ?_) (fun c45 => ?_)
            · have h46 := if_n h44 c45
              clear h44
              refine x_iinc (lv' := [(3, .int (iI (z5.1 + (-1)))), (0, .ref (aT 0)), (1, .ref (aU 0)), (4, .int (iI z5.2))]) C dX5_endNumber_35 hl (k := 2) rfl (by decide) rfl (fun ls hl => ?_)
              refine x_iinc (lv' := [(4, .int (iI (z5.2 + 1))), (3, .int (iI (z5.1 + (-1)))), (0, .ref (aT 0)), (1, .ref (aU 0))]) C dX5_endNumber_38 hl (k := 3) rfl (by decide) rfl (fun ls hl => ?_)
              refine lv_goto (tgt := 5) C.1 C.2.1 dX5_endNumber_41 (by decide) ?_
              cases h46
              exact ih5 (z5.1 + (-1), z5.2 + 1) _ _ _ (lp_L2 hx5) Z (lv_sub hl [2, 3, 1, 0] rfl)
            · have h47 := if_p h44 c45
              clear h44
              refine lv_iload C.1 C.2.1 dX5_endNumber_32 (lv_at hl 3 rfl) ?_
              cases h47
              have h48 := lp_R hx5
              subst h48
              have h49 := (Sum.elim_inl ..).symm.trans h51
              have h50 := Option.some.inj h49
              subst h50
              exact hRet _ _ _ _ Z dX5_endNumber_34
  exact hL5 n (v2, 0) _ _ _ hl5 Z (lv_sub hl [2, 3, 1, 0] rfl)
abbrev rmX5_versionTaken : Room := { frames := 0, cells := 0, slots := 0, locals := 0 }
theorem yk_X5_versionTaken : xY yX5_versionTaken RX5 cX5_versionTaken 1 (some .int) wsX5_versionTaken rmX5_versionTaken 0 := ⟨⟨_, rfl⟩, by decide +kernel, rfl, rfl⟩
theorem i_X5_X5_versionTaken : ∀ w ∈ u_ws RX5 TX5 8, w ∈ wsX5_versionTaken := fun _ h => List.mem_cons_of_mem _ (List.mem_append_right _ h)
set_option maxHeartbeats 4000000 in
set_option maxRecDepth 100000 in
theorem k_X5_versionTaken (l : Launch) (g : xG) (n : Nat) (aT : Nat → Nat) (sT : TxtS) (r : Int) (hf : p_X5_versionTaken sT = some r) : xMi l yX5_versionTaken wsX5_versionTaken rmX5_versionTaken g [.ref (aT 0)] (wT g aT sT) (wT g aT sT) r := by
  refine x_ofW_i (own := RX5) (by decide) rfl rfl (Nat.le_of_ble_eq_true rfl) ?_
  intro p e s m args below meth c ls A QQ C hRet Z hl
  have hl : lv_has ls 1 [(0, .ref (aT 0))] := hl
  unfold p_X5_versionTaken at hf
  refine lv_aload_n C.1 C.2.1 dX5_versionTaken_0 rfl (lv_at hl 0 rfl) ?_
  refine x_get C Z 0 rfl rfl i_X5_X5_versionTaken (k := 7) (by decide) (List.mem_of_getElem? (i := 1) rfl) rfl dX5_versionTaken_1 ?_
  have h1 := Option.some.inj hf
  subst h1
  exact hRet _ _ _ _ Z dX5_versionTaken_4
abbrev rmX4_lengthAt : Room := { frames := 0, cells := 0, slots := 0, locals := 0 }
theorem yk_X4_lengthAt : xY yX4_lengthAt RX4 cX4_lengthAt 2 (some .int) wsX4_lengthAt rmX4_lengthAt 1 := ⟨⟨_, rfl⟩, by decide +kernel, rfl, rfl⟩
theorem i_X4_X4_lengthAt : ∀ w ∈ u_ws RX4 TX4 1, w ∈ wsX4_lengthAt := fun _ h => List.mem_cons_of_mem _ (List.mem_append_right _ h)
set_option maxHeartbeats 4000000 in
set_option maxRecDepth 100000 in
theorem k_X4_lengthAt (l : Launch) (g : xG) (n : Nat) (aS : Nat → Nat) (sS : SwpS) (v1 : Int) (r : Int) (hf : p_X4_lengthAt sS v1 = some r) : xMi l yX4_lengthAt wsX4_lengthAt rmX4_lengthAt g [.ref (aS 0), .int (iI v1)] (wS g aS sS) (wS g aS sS) r := by
  refine x_ofW_i (own := RX4) (by decide) rfl rfl (Nat.le_of_ble_eq_true rfl) ?_
  intro p e s m args below meth c ls A QQ C hRet Z hl
  have hl : lv_has ls 2 [(0, .ref (aS 0)), (1, .int (iI v1))] := hl
  unfold p_X4_lengthAt at hf
  refine lv_iload_n C.1 C.2.1 dX4_lengthAt_0 rfl (lv_at hl 1 rfl) ?_
  have q1 := (ck_some hf).1
  have h2 := (ck_some hf).2
  clear hf
  refine x_if_lt (tgt := 19) C dX4_lengthAt_1 (by decide) q1 (fun c3 => ?_) (fun c3 => ?_)
  · have h4 := if_p h2 c3
    clear h2
    refine x_iconst C dX4_lengthAt_19 ?_
    have h6 := Option.some.inj h4
    subst h6
    exact hRet _ _ _ _ Z dX4_lengthAt_20
  · have h5 := if_n h2 c3
    clear h2
    refine lv_iload_n C.1 C.2.1 dX4_lengthAt_4 rfl (lv_at hl 1 rfl) ?_
    refine x_bipush C dX4_lengthAt_5 (by decide) ?_
    refine x_icmp_ge (tgt := 19) C dX4_lengthAt_7 (by decide) q1 (by decide) (fun c7 => ?_) (fun c7 => ?_)
    · have h8 := if_n h5 c7
      clear h5
      refine x_iconst C dX4_lengthAt_19 ?_
      have h10 := Option.some.inj h8
      subst h10
      exact hRet _ _ _ _ Z dX4_lengthAt_20
    · have h9 := if_p h5 c7
      clear h5
      refine lv_aload_n C.1 C.2.1 dX4_lengthAt_10 rfl (lv_at hl 0 rfl) ?_
      refine x_get C Z 0 rfl rfl i_X4_X4_lengthAt (k := 0) (by decide) (List.mem_of_getElem? (i := 1) rfl) rfl dX4_lengthAt_11 ?_
      refine lv_iload_n C.1 C.2.1 dX4_lengthAt_14 rfl (lv_at hl 1 rfl) ?_
      have q11 := (ix_some h9).1
      have h12 := (ix_some h9).2
      clear h9
      refine x_iald C Z 1 rfl (by decide) q11 dX4_lengthAt_15 ?_
      refine lv_goto (tgt := 20) C.1 C.2.1 dX4_lengthAt_16 (by decide) ?_
      have h13 := Option.some.inj h12
      subst h13
      exact hRet _ _ _ _ Z dX4_lengthAt_20
abbrev rmX1_countEnds : Room := { frames := 1, cells := 0, slots := 0, locals := 21 }
theorem yk_X1_countEnds : xY yX1_countEnds RX1 cX1_countEnds 5 none wsX1_countEnds rmX1_countEnds 2 := ⟨⟨_, rfl⟩, by decide +kernel, rfl, rfl⟩
theorem i_X1_X1_countEnds : ∀ w ∈ u_ws RX1 TX1 13, w ∈ wsX1_countEnds := fun _ h => List.mem_cons_of_mem _ (List.mem_append_left _ (List.mem_append_right _ h))
theorem i_X4_X1_countEnds : ∀ w ∈ u_ws RX4 TX4 1, w ∈ wsX1_countEnds := fun _ h => List.mem_cons_of_mem _ (List.mem_append_right _ h)
set_option maxHeartbeats 4000000 in
set_option maxRecDepth 100000 in
theorem k_X1_countEnds (l : Launch) (g : xG) (n : Nat) (aC : Nat → Nat) (aK : Nat → Nat) (rr : Nat → Nat) (sC : ClsS) (sK : SwpS) (v1 : Int) (v2 : Int) (r : ClsS) (hf : p_X1_countEnds n sC sK v1 v2 = some r) : xMv l yX1_countEnds wsX1_countEnds rmX1_countEnds g [.ref (aC 0), .int (iI v1), .int (iI v2)] ((wC g aC (aK 0) rr sC ++ wS g aK sK) ++ wR g rr sC.classOf) ((wC g aC (aK 0) rr r ++ wS g aK sK) ++ wR g rr r.classOf) := by
  refine x_ofW_v (own := RX1) (by decide) rfl rfl (Nat.le_of_ble_eq_true rfl) ?_
  intro p e s m args below meth c ls A QQ C hRet Z hl
  have hl : lv_has ls 5 [(0, .ref (aC 0)), (1, .int (iI v1)), (2, .int (iI v2))] := hl
  unfold p_X1_countEnds at hf
  refine x_iconst C dX1_countEnds_0 ?_
  refine lv_istore_n (lv' := [(3, .int (iI 0)), (0, .ref (aC 0)), (1, .int (iI v1)), (2, .int (iI v2))]) C.1 C.2.1 dX1_countEnds_1 rfl hl (by decide) rfl (fun ls hl => ?_)
  obtain ⟨ex2, hl2, h29⟩ := bd_some hf
  clear hf
  have hK2 : ∀ (H : Heap) (locs : List Loc) (ls : Array Slot), xSt g A s ((wC g aC (aK 0) rr (ex2, sC.classOf, sC.firstEnds, sC.longest, sC.shortest, sC.ends, sC.links, sC.wordSets, sC.stepSets, sC.letterSet, sC.size, sC.version) ++ wS g aK sK) ++ wR g rr sC.classOf) H locs → lv_has ls 5 [(0, .ref (aC 0)), (1, .int (iI v1)), (2, .int (iI v2))] → W p l e rmX1_countEnds s m args below meth c H locs 0 0 QQ (F0 m 29 ls []) := by
    intro H locs ls Z hl
    have h30 := h29
    clear h29
    refine x_iconst C dX1_countEnds_29 ?_
    refine lv_istore_n (lv' := [(3, .int (iI 0)), (0, .ref (aC 0)), (1, .int (iI v1)), (2, .int (iI v2))]) C.1 C.2.1 dX1_countEnds_30 rfl hl (by decide) rfl (fun ls hl => ?_)
    obtain ⟨ex31, hl31, h71⟩ := bd_some h30
    clear h30
    have hK31 : ∀ (H : Heap) (locs : List Loc) (ls : Array Slot), xSt g A s ((wC g aC (aK 0) rr (ex31, sC.classOf, sC.firstEnds, sC.longest, sC.shortest, sC.ends, sC.links, sC.wordSets, sC.stepSets, sC.letterSet, sC.size, sC.version) ++ wS g aK sK) ++ wR g rr sC.classOf) H locs → lv_has ls 5 [(0, .ref (aC 0)), (2, .int (iI v2))] → W p l e rmX1_countEnds s m args below meth c H locs 0 0 QQ (F0 m 78 ls []) := by
      intro H locs ls Z hl
      have h72 := h71
      clear h71
      refine lv_iload_n C.1 C.2.1 dX1_countEnds_78 rfl (lv_at hl 1 rfl) ?_
      refine lv_aload_n C.1 C.2.1 dX1_countEnds_79 rfl (lv_at hl 0 rfl) ?_
      refine x_get C Z 0 rfl rfl i_X1_X1_countEnds (k := 1) (by decide) (List.mem_of_getElem? (i := 1) rfl) rfl dX1_countEnds_80 ?_
      refine x_alen C Z 1 rfl (v := 61) (by decide) dX1_countEnds_83 ?_
      refine x_iconst C dX1_countEnds_84 ?_
      refine x_isub C dX1_countEnds_85 ?_
      have q73 := (ck_some h72).1
      have h74 := (ck_some h72).2
      clear h72
      have q75 := (ck_some h74).1
      have h76 := (ck_some h74).2
      clear h74
      refine x_mmin (rest := []) C hl.1 (List.mem_of_getElem? (i := 3) rfl) (List.mem_of_getElem? (i := 4) rfl) (List.mem_of_getElem? (i := 5) rfl) (List.mem_of_getElem? (i := 6) rfl) (by decide) (by decide) (Nat.le_of_ble_eq_true rfl) ⟨Nat.zero_le _, Nat.zero_le _⟩ q73 q75 dX1_countEnds_86 ?_
      refine x_iconst C dX1_countEnds_89 ?_
      refine x_isub C dX1_countEnds_90 ?_
      refine lv_istore_n (lv' := [(3, .int (iI ((min v2 (61 - 1)) - 1))), (0, .ref (aC 0)), (2, .int (iI v2))]) C.1 C.2.1 dX1_countEnds_91 rfl hl (by decide) rfl (fun ls hl => ?_)
      obtain ⟨ex92, hl92, h97⟩ := bd_some h76
      clear h76
      have hK92 : ∀ (H : Heap) (locs : List Loc) (ls : Array Slot), xSt g A s ((wC g aC (aK 0) rr (ex92, sC.classOf, sC.firstEnds, sC.longest, sC.shortest, sC.ends, sC.links, sC.wordSets, sC.stepSets, sC.letterSet, sC.size, sC.version) ++ wS g aK sK) ++ wR g rr sC.classOf) H locs → lv_has ls 5 [] → W p l e rmX1_countEnds s m args below meth c H locs 0 0 QQ (F0 m 119 ls []) := by
        intro H locs ls Z hl
        have h98 := h97
        clear h97
        have h99 := Option.some.inj h98
        subst h99
        exact hRet _ _ _ _ Z dX1_countEnds_119
      have hL92 : ∀ (k92 : Nat) (z92 : Int × Row) (H : Heap) (locs : List Loc) (ls : Array Slot), lp (p_X1_countEnds_b92 n) k92 z92 = some ex92 → xSt g A s ((wC g aC (aK 0) rr (z92.2, sC.classOf, sC.firstEnds, sC.longest, sC.shortest, sC.ends, sC.links, sC.wordSets, sC.stepSets, sC.letterSet, sC.size, sC.version) ++ wS g aK sK) ++ wR g rr sC.classOf) H locs → lv_has ls 5 [(0, .ref (aC 0)), (3, .int (iI z92.1))] → W p l e rmX1_countEnds s m args below meth c H locs 0 0 QQ (F0 m 92 ls []) := by
        intro k92
        induction k92 with
        | zero => intro z92 H locs ls h; exact (lp_0 h).elim
        | succ k92 ih92 =>
          intro z92 H locs ls h Z hl
          obtain ⟨x92, hb92, hx92⟩ := lp_s h
          clear h
          unfold p_X1_countEnds_b92 at hb92
          refine lv_iload_n C.1 C.2.1 dX1_countEnds_92 rfl (lv_at hl 1 rfl) ?_
          have q87 := (ck_some hb92).1
          have h88 := (ck_some hb92).2
          clear hb92
          refine x_if_lt (tgt := 119) C dX1_countEnds_93 (by decide) q87 (fun c89 => ?_) (fun c89 => ?_)
          · have h90 := if_p h88 c89
            clear h88
            cases h90
            have h92 := lp_R hx92
            subst h92
            exact hK92 _ _ _ Z (lv_sub hl [] rfl)
          · have h91 := if_n h88 c89
            clear h88
            refine lv_aload_n C.1 C.2.1 dX1_countEnds_96 rfl (lv_at hl 0 rfl) ?_
            refine x_get C Z 0 rfl rfl i_X1_X1_countEnds (k := 1) (by decide) (List.mem_of_getElem? (i := 1) rfl) rfl dX1_countEnds_97 ?_
            refine lv_iload_n C.1 C.2.1 dX1_countEnds_100 rfl (lv_at hl 1 rfl) ?_
            refine lv_dup2_11 C.1 C.2.1 dX1_countEnds_101 rfl rfl ?_
            have q93 := (ix_some h91).1
            have h94 := (ix_some h91).2
            clear h91
            refine x_iald C Z 1 rfl (by decide) q93 dX1_countEnds_102 ?_
            refine lv_aload_n C.1 C.2.1 dX1_countEnds_103 rfl (lv_at hl 0 rfl) ?_
            refine x_get C Z 0 rfl rfl i_X1_X1_countEnds (k := 1) (by decide) (List.mem_of_getElem? (i := 1) rfl) rfl dX1_countEnds_104 ?_
            refine lv_iload_n C.1 C.2.1 dX1_countEnds_107 rfl (lv_at hl 1 rfl) ?_
            refine x_iconst C dX1_countEnds_108 ?_
            refine x_iadd C dX1_countEnds_109 ?_
            have q95 := (ix_some h94).1
            have h96 := (ix_some h94).2
            clear h94
            refine x_iald C Z 1 rfl (by decide) q95 dX1_countEnds_110 ?_
            refine x_iadd C dX1_countEnds_111 ?_
            refine x_iast (ws2 := (wC g aC (aK 0) rr (up z92.2 z92.1 ((z92.2 z92.1) + (z92.2 (z92.1 + 1))), sC.classOf, sC.firstEnds, sC.longest, sC.shortest, sC.ends, sC.links, sC.wordSets, sC.stepSets, sC.letterSet, sC.size, sC.version) ++ wS g aK sK) ++ wR g rr sC.classOf) C Z 1 rfl (by decide) q93 dX1_countEnds_112 rfl (fun H locs Z => ?_)
            refine x_iinc (lv' := [(3, .int (iI (z92.1 + (-1)))), (0, .ref (aC 0))]) C dX1_countEnds_113 hl (k := 1) rfl (by decide) rfl (fun ls hl => ?_)
            refine lv_goto (tgt := 92) C.1 C.2.1 dX1_countEnds_116 (by decide) ?_
            cases h96
            exact ih92 (z92.1 + (-1), up z92.2 z92.1 ((z92.2 z92.1) + (z92.2 (z92.1 + 1)))) _ _ _ (lp_L2 hx92) Z (lv_sub hl [1, 0] rfl)
      exact hL92 n ((min v2 (61 - 1)) - 1, ex31) _ _ _ hl92 Z (lv_sub hl [1, 0] rfl)
    have hL31 : ∀ (k31 : Nat) (z31 : Int × Row) (H : Heap) (locs : List Loc) (ls : Array Slot), lp (p_X1_countEnds_b31 n sK v1) k31 z31 = some ex31 → xSt g A s ((wC g aC (aK 0) rr (z31.2, sC.classOf, sC.firstEnds, sC.longest, sC.shortest, sC.ends, sC.links, sC.wordSets, sC.stepSets, sC.letterSet, sC.size, sC.version) ++ wS g aK sK) ++ wR g rr sC.classOf) H locs → lv_has ls 5 [(0, .ref (aC 0)), (1, .int (iI v1)), (2, .int (iI v2)), (3, .int (iI z31.1))] → W p l e rmX1_countEnds s m args below meth c H locs 0 0 QQ (F0 m 31 ls []) := by
      intro k31
      induction k31 with
      | zero => intro z31 H locs ls h; exact (lp_0 h).elim
      | succ k31 ih31 =>
        intro z31 H locs ls h Z hl
        obtain ⟨x31, hb31, hx31⟩ := lp_s h
        clear h
        unfold p_X1_countEnds_b31 at hb31
        refine lv_iload_n C.1 C.2.1 dX1_countEnds_31 rfl (lv_at hl 3 rfl) ?_
        refine lv_iload_n C.1 C.2.1 dX1_countEnds_32 rfl (lv_at hl 1 rfl) ?_
        have q51 := (ck_some hb31).1
        have h52 := (ck_some hb31).2
        clear hb31
        have q53 := (ck_some h52).1
        have h54 := (ck_some h52).2
        clear h52
        refine x_icmp_ge (tgt := 78) C dX1_countEnds_33 (by decide) q51 q53 (fun c55 => ?_) (fun c55 => ?_)
        · have h56 := if_n h54 c55
          clear h54
          cases h56
          have h58 := lp_R hx31
          subst h58
          exact hK31 _ _ _ Z (lv_sub hl [0, 2] rfl)
        · have h57 := if_p h54 c55
          clear h54
          refine lv_aload_n C.1 C.2.1 dX1_countEnds_36 rfl (lv_at hl 0 rfl) ?_
          refine x_get C Z 0 rfl rfl i_X1_X1_countEnds (k := 0) (by decide) (List.mem_of_getElem? (i := 2) rfl) rfl dX1_countEnds_37 ?_
          refine lv_iload_n C.1 C.2.1 dX1_countEnds_40 rfl (lv_at hl 3 rfl) ?_
          obtain ⟨r59, hr59, h60⟩ := bd_some h57
          clear h57
          refine x_callV_i_Q (As := [.int (iI z31.1)]) (rest := []) (q0 := 0) (X2 := (wC g aC (aK 0) rr (z31.2, sC.classOf, sC.firstEnds, sC.longest, sC.shortest, sC.ends, sC.links, sC.wordSets, sC.stepSets, sC.letterSet, sC.size, sC.version) ++ wS g aK sK)) C Z fr_CK_1 (k_X4_lengthAt l g n aK sK z31.1 r59 hr59) gX1_countEnds_X4_lengthAt yk_X4_lengthAt ⟨Nat.le_of_ble_eq_true rfl, Nat.le_of_ble_eq_true rfl⟩ rfl rfl ⟨Nat.zero_le _, Nat.zero_le _⟩ hl.1 rfl (Nat.le_of_ble_eq_true rfl) rfl dX1_countEnds_41 (fun H locs Z => ?_)
          refine lv_istore (lv' := [(4, .int (iI r59)), (0, .ref (aC 0)), (1, .int (iI v1)), (2, .int (iI v2)), (3, .int (iI z31.1))]) C.1 C.2.1 dX1_countEnds_44 hl (by decide) rfl (fun ls hl => ?_)
          refine lv_iload C.1 C.2.1 dX1_countEnds_46 (lv_at hl 0 rfl) ?_
          have q61 := (ck_some h60).1
          have h62 := (ck_some h60).2
          clear h60
          refine x_if_lt (tgt := 72) C dX1_countEnds_48 (by decide) q61 (fun c63 => ?_) (fun c63 => ?_)
          · have h64 := if_p h62 c63
            clear h62
            refine x_iinc (lv' := [(3, .int (iI (z31.1 + 1))), (4, .int (iI r59)), (0, .ref (aC 0)), (1, .int (iI v1)), (2, .int (iI v2))]) C dX1_countEnds_72 hl (k := 4) rfl (by decide) rfl (fun ls hl => ?_)
            refine lv_goto (tgt := 31) C.1 C.2.1 dX1_countEnds_75 (by decide) ?_
            cases h64
            exact ih31 (z31.1 + 1, z31.2) _ _ _ (lp_L2 hx31) Z (lv_sub hl [2, 3, 4, 0] rfl)
          · have h65 := if_n h62 c63
            clear h62
            refine lv_iload C.1 C.2.1 dX1_countEnds_51 (lv_at hl 0 rfl) ?_
            refine lv_aload_n C.1 C.2.1 dX1_countEnds_53 rfl (lv_at hl 1 rfl) ?_
            refine x_get C Z 0 rfl rfl i_X1_X1_countEnds (k := 1) (by decide) (List.mem_of_getElem? (i := 1) rfl) rfl dX1_countEnds_54 ?_
            refine x_alen C Z 1 rfl (v := 61) (by decide) dX1_countEnds_57 ?_
            refine x_icmp_ge (tgt := 72) C dX1_countEnds_58 (by decide) q61 (by decide) (fun c66 => ?_) (fun c66 => ?_)
            · have h67 := if_n h65 c66
              clear h65
              refine x_iinc (lv' := [(3, .int (iI (z31.1 + 1))), (4, .int (iI r59)), (0, .ref (aC 0)), (1, .int (iI v1)), (2, .int (iI v2))]) C dX1_countEnds_72 hl (k := 4) rfl (by decide) rfl (fun ls hl => ?_)
              refine lv_goto (tgt := 31) C.1 C.2.1 dX1_countEnds_75 (by decide) ?_
              cases h67
              exact ih31 (z31.1 + 1, z31.2) _ _ _ (lp_L2 hx31) Z (lv_sub hl [2, 3, 4, 0] rfl)
            · have h68 := if_p h65 c66
              clear h65
              refine lv_aload_n C.1 C.2.1 dX1_countEnds_61 rfl (lv_at hl 1 rfl) ?_
              refine x_get C Z 0 rfl rfl i_X1_X1_countEnds (k := 1) (by decide) (List.mem_of_getElem? (i := 1) rfl) rfl dX1_countEnds_62 ?_
              refine lv_iload C.1 C.2.1 dX1_countEnds_65 (lv_at hl 0 rfl) ?_
              refine lv_dup2_11 C.1 C.2.1 dX1_countEnds_67 rfl rfl ?_
              have q69 := (ix_some h68).1
              have h70 := (ix_some h68).2
              clear h68
              refine x_iald C Z 1 rfl (by decide) q69 dX1_countEnds_68 ?_
              refine x_iconst C dX1_countEnds_69 ?_
              refine x_iadd C dX1_countEnds_70 ?_
              refine x_iast (ws2 := (wC g aC (aK 0) rr (up z31.2 r59 ((z31.2 r59) + 1), sC.classOf, sC.firstEnds, sC.longest, sC.shortest, sC.ends, sC.links, sC.wordSets, sC.stepSets, sC.letterSet, sC.size, sC.version) ++ wS g aK sK) ++ wR g rr sC.classOf) C Z 1 rfl (by decide) q69 dX1_countEnds_71 rfl (fun H locs Z => ?_)
              refine x_iinc (lv' := [(3, .int (iI (z31.1 + 1))), (4, .int (iI r59)), (0, .ref (aC 0)), (1, .int (iI v1)), (2, .int (iI v2))]) C dX1_countEnds_72 hl (k := 4) rfl (by decide) rfl (fun ls hl => ?_)
              refine lv_goto (tgt := 31) C.1 C.2.1 dX1_countEnds_75 (by decide) ?_
              cases h70
              exact ih31 (z31.1 + 1, up z31.2 r59 ((z31.2 r59) + 1)) _ _ _ (lp_L2 hx31) Z (lv_sub hl [2, 3, 4, 0] rfl)
    exact hL31 n (0, ex2) _ _ _ hl31 Z (lv_sub hl [1, 2, 3, 0] rfl)
  have hL2 : ∀ (k2 : Nat) (z2 : Int × Row) (H : Heap) (locs : List Loc) (ls : Array Slot), lp (p_X1_countEnds_b2 n v2) k2 z2 = some ex2 → xSt g A s ((wC g aC (aK 0) rr (z2.2, sC.classOf, sC.firstEnds, sC.longest, sC.shortest, sC.ends, sC.links, sC.wordSets, sC.stepSets, sC.letterSet, sC.size, sC.version) ++ wS g aK sK) ++ wR g rr sC.classOf) H locs → lv_has ls 5 [(0, .ref (aC 0)), (1, .int (iI v1)), (2, .int (iI v2)), (3, .int (iI z2.1))] → W p l e rmX1_countEnds s m args below meth c H locs 0 0 QQ (F0 m 2 ls []) := by
    intro k2
    induction k2 with
    | zero => intro z2 H locs ls h; exact (lp_0 h).elim
    | succ k2 ih2 =>
      intro z2 H locs ls h Z hl
      obtain ⟨x2, hb2, hx2⟩ := lp_s h
      clear h
      unfold p_X1_countEnds_b2 at hb2
      refine lv_iload_n C.1 C.2.1 dX1_countEnds_2 rfl (lv_at hl 3 rfl) ?_
      refine lv_iload_n C.1 C.2.1 dX1_countEnds_3 rfl (lv_at hl 2 rfl) ?_
      have q15 := (ck_some hb2).1
      have h16 := (ck_some hb2).2
      clear hb2
      have q17 := (ck_some h16).1
      have h18 := (ck_some h16).2
      clear h16
      refine x_icmp_gt (tgt := 29) C dX1_countEnds_4 (by decide) q15 q17 (fun c19 => ?_) (fun c19 => ?_)
      · have h20 := if_p h18 c19
        clear h18
        cases h20
        have h22 := lp_R hx2
        subst h22
        exact hK2 _ _ _ Z (lv_sub hl [0, 1, 2] rfl)
      · have h21 := if_n h18 c19
        clear h18
        refine lv_iload_n C.1 C.2.1 dX1_countEnds_7 rfl (lv_at hl 3 rfl) ?_
        refine lv_aload_n C.1 C.2.1 dX1_countEnds_8 rfl (lv_at hl 0 rfl) ?_
        refine x_get C Z 0 rfl rfl i_X1_X1_countEnds (k := 1) (by decide) (List.mem_of_getElem? (i := 1) rfl) rfl dX1_countEnds_9 ?_
        refine x_alen C Z 1 rfl (v := 61) (by decide) dX1_countEnds_12 ?_
        refine x_icmp_ge (tgt := 29) C dX1_countEnds_13 (by decide) q15 (by decide) (fun c23 => ?_) (fun c23 => ?_)
        · have h24 := if_n h21 c23
          clear h21
          cases h24
          have h26 := lp_R hx2
          subst h26
          exact hK2 _ _ _ Z (lv_sub hl [0, 1, 2] rfl)
        · have h25 := if_p h21 c23
          clear h21
          refine lv_aload_n C.1 C.2.1 dX1_countEnds_16 rfl (lv_at hl 0 rfl) ?_
          refine x_get C Z 0 rfl rfl i_X1_X1_countEnds (k := 1) (by decide) (List.mem_of_getElem? (i := 1) rfl) rfl dX1_countEnds_17 ?_
          refine lv_iload_n C.1 C.2.1 dX1_countEnds_20 rfl (lv_at hl 3 rfl) ?_
          refine x_iconst C dX1_countEnds_21 ?_
          have q27 := (ix_some h25).1
          have h28 := (ix_some h25).2
          clear h25
          refine x_iast (ws2 := (wC g aC (aK 0) rr (up z2.2 z2.1 0, sC.classOf, sC.firstEnds, sC.longest, sC.shortest, sC.ends, sC.links, sC.wordSets, sC.stepSets, sC.letterSet, sC.size, sC.version) ++ wS g aK sK) ++ wR g rr sC.classOf) C Z 1 rfl (by decide) q27 dX1_countEnds_22 rfl (fun H locs Z => ?_)
          refine x_iinc (lv' := [(3, .int (iI (z2.1 + 1))), (0, .ref (aC 0)), (1, .int (iI v1)), (2, .int (iI v2))]) C dX1_countEnds_23 hl (k := 3) rfl (by decide) rfl (fun ls hl => ?_)
          refine lv_goto (tgt := 2) C.1 C.2.1 dX1_countEnds_26 (by decide) ?_
          cases h28
          exact ih2 (z2.1 + 1, up z2.2 z2.1 0) _ _ _ (lp_L2 hx2) Z (lv_sub hl [1, 2, 3, 0] rfl)
  exact hL2 n (0, sC.endCounts) _ _ _ hl2 Z (lv_sub hl [1, 2, 3, 0] rfl)
abbrev rmX1_classAt : Room := { frames := 0, cells := 0, slots := 0, locals := 0 }
theorem yk_X1_classAt : xY yX1_classAt RX1 cX1_classAt 4 (some .int) wsX1_classAt rmX1_classAt 2 := ⟨⟨_, rfl⟩, by decide +kernel, rfl, rfl⟩
theorem i_X1_X1_classAt : ∀ w ∈ u_ws RX1 TX1 13, w ∈ wsX1_classAt := fun _ h => List.mem_cons_of_mem _ (List.mem_append_right _ h)
set_option maxHeartbeats 4000000 in
set_option maxRecDepth 100000 in
theorem k_X1_classAt (l : Launch) (g : xG) (n : Nat) (aC : Nat → Nat) (aK : Nat → Nat) (rr : Nat → Nat) (sC : ClsS) (sK : SwpS) (v1 : Int) (v2 : Int) (r : Int) (hf : p_X1_classAt sC v1 v2 = some r) : xMi l yX1_classAt wsX1_classAt rmX1_classAt g [.ref (aC 0), .int (iI v1), .int (iI v2)] ((wC g aC (aK 0) rr sC ++ wS g aK sK) ++ wR g rr sC.classOf) ((wC g aC (aK 0) rr sC ++ wS g aK sK) ++ wR g rr sC.classOf) r := by
  refine x_ofW_i (own := RX1) (by decide) rfl rfl (Nat.le_of_ble_eq_true rfl) ?_
  intro p e s m args below meth c ls A QQ C hRet Z hl
  have hl : lv_has ls 4 [(0, .ref (aC 0)), (1, .int (iI v1)), (2, .int (iI v2))] := hl
  unfold p_X1_classAt at hf
  have hJ25 : ∀ (v1_25 : Int) (v2_25 : Int) (t0_25 : Int) (H : Heap) (locs : List Loc) (ls : Array Slot), p_X1_classAt_j25 sC v1_25 v2_25 t0_25 = some r → xSt g A s ((wC g aC (aK 0) rr sC ++ wS g aK sK) ++ wR g rr sC.classOf) H locs → lv_has ls 4 [(0, .ref (aC 0)), (1, .int (iI v1_25)), (2, .int (iI v2_25))] → W p l e rmX1_classAt s m args below meth c H locs 0 0 QQ (F0 m 25 ls [.int (iI t0_25)]) := by
    intro v1_25 v2_25 t0_25 H locs ls hj25 Z hl
    unfold p_X1_classAt_j25 at hj25
    refine lv_istore_n (lv' := [(3, .int (iI t0_25)), (0, .ref (aC 0)), (1, .int (iI v1_25)), (2, .int (iI v2_25))]) C.1 C.2.1 dX1_classAt_25 rfl hl (by decide) rfl (fun ls hl => ?_)
    refine lv_iload_n C.1 C.2.1 dX1_classAt_26 rfl (lv_at hl 0 rfl) ?_
    have q1 := (ck_some hj25).1
    have h2 := (ck_some hj25).2
    clear hj25
    refine x_if_eq (tgt := 41) C dX1_classAt_27 (by decide) q1 (fun c3 => ?_) (fun c3 => ?_)
    · have h4 := if_p h2 c3
      clear h2
      refine x_bipush C dX1_classAt_41 (by decide) ?_
      have h6 := Option.some.inj h4
      subst h6
      exact hRet _ _ _ _ Z dX1_classAt_43
    · have h5 := if_n h2 c3
      clear h2
      refine lv_aload_n C.1 C.2.1 dX1_classAt_30 rfl (lv_at hl 1 rfl) ?_
      refine x_get C Z 0 rfl rfl i_X1_X1_classAt (k := 2) (by decide) (List.mem_of_getElem? (i := 1) rfl) rfl dX1_classAt_31 ?_
      refine lv_iload_n C.1 C.2.1 dX1_classAt_34 rfl (lv_at hl 2 rfl) ?_
      have q7 := (ix_some h5).1
      have h8 := (ix_some h5).2
      clear h5
      refine x_aald C Z 2 rfl q7 dX1_classAt_35 ?_
      refine lv_iload_n C.1 C.2.1 dX1_classAt_36 rfl (lv_at hl 3 rfl) ?_
      have q9 := (ix_some h8).1
      have h10 := (ix_some h8).2
      clear h8
      refine x_rald C Z q7 q9 dX1_classAt_37 ?_
      refine lv_goto (tgt := 43) C.1 C.2.1 dX1_classAt_38 (by decide) ?_
      have h11 := Option.some.inj h10
      subst h11
      exact hRet _ _ _ _ Z dX1_classAt_43
  have hJ24 : ∀ (v1_24 : Int) (v2_24 : Int) (H : Heap) (locs : List Loc) (ls : Array Slot), p_X1_classAt_j24 sC v1_24 v2_24 = some r → xSt g A s ((wC g aC (aK 0) rr sC ++ wS g aK sK) ++ wR g rr sC.classOf) H locs → lv_has ls 4 [(0, .ref (aC 0)), (1, .int (iI v1_24)), (2, .int (iI v2_24))] → W p l e rmX1_classAt s m args below meth c H locs 0 0 QQ (F0 m 24 ls []) := by
    intro v1_24 v2_24 H locs ls hj24 Z hl
    unfold p_X1_classAt_j24 at hj24
    refine x_iconst C dX1_classAt_24 ?_
    exact hJ25 v1_24 v2_24 0 _ _ _ hj24 Z (lv_sub hl [0, 1, 2] rfl)
  refine lv_iload_n C.1 C.2.1 dX1_classAt_0 rfl (lv_at hl 1 rfl) ?_
  have q12 := (ck_some hf).1
  have h13 := (ck_some hf).2
  clear hf
  refine x_if_lt (tgt := 24) C dX1_classAt_1 (by decide) q12 (fun c14 => ?_) (fun c14 => ?_)
  · have h15 := if_p h13 c14
    clear h13
    exact hJ24 v1 v2 _ _ _ h15 Z (lv_sub hl [0, 1, 2] rfl)
  · have h16 := if_n h13 c14
    clear h13
    refine lv_iload_n C.1 C.2.1 dX1_classAt_4 rfl (lv_at hl 1 rfl) ?_
    refine x_bipush C dX1_classAt_5 (by decide) ?_
    refine x_icmp_ge (tgt := 24) C dX1_classAt_7 (by decide) q12 (by decide) (fun c17 => ?_) (fun c17 => ?_)
    · have h18 := if_n h16 c17
      clear h16
      exact hJ24 v1 v2 _ _ _ h18 Z (lv_sub hl [0, 1, 2] rfl)
    · have h19 := if_p h16 c17
      clear h16
      refine lv_iload_n C.1 C.2.1 dX1_classAt_10 rfl (lv_at hl 2 rfl) ?_
      have q20 := (ck_some h19).1
      have h21 := (ck_some h19).2
      clear h19
      refine x_if_lt (tgt := 24) C dX1_classAt_11 (by decide) q20 (fun c22 => ?_) (fun c22 => ?_)
      · have h23 := if_p h21 c22
        clear h21
        exact hJ24 v1 v2 _ _ _ h23 Z (lv_sub hl [0, 1, 2] rfl)
      · have h24 := if_n h21 c22
        clear h21
        refine lv_iload_n C.1 C.2.1 dX1_classAt_14 rfl (lv_at hl 2 rfl) ?_
        refine x_bipush C dX1_classAt_15 (by decide) ?_
        refine x_icmp_gt (tgt := 24) C dX1_classAt_17 (by decide) q20 (by decide) (fun c25 => ?_) (fun c25 => ?_)
        · have h26 := if_p h24 c25
          clear h24
          exact hJ24 v1 v2 _ _ _ h26 Z (lv_sub hl [0, 1, 2] rfl)
        · have h27 := if_n h24 c25
          clear h24
          refine x_iconst C dX1_classAt_20 ?_
          refine lv_goto (tgt := 25) C.1 C.2.1 dX1_classAt_21 (by decide) ?_
          exact hJ25 v1 v2 1 _ _ _ h27 Z (lv_sub hl [0, 1, 2] rfl)
abbrev rmX1_putClass : Room := { frames := 0, cells := 0, slots := 0, locals := 0 }
theorem yk_X1_putClass : xY yX1_putClass RX1 cX1_putClass 4 none wsX1_putClass rmX1_putClass 3 := ⟨⟨_, rfl⟩, by decide +kernel, rfl, rfl⟩
theorem i_X1_X1_putClass : ∀ w ∈ u_ws RX1 TX1 13, w ∈ wsX1_putClass := fun _ h => List.mem_cons_of_mem _ (List.mem_append_right _ h)
set_option maxHeartbeats 4000000 in
set_option maxRecDepth 100000 in
theorem k_X1_putClass (l : Launch) (g : xG) (n : Nat) (aC : Nat → Nat) (aK : Nat → Nat) (rr : Nat → Nat) (sC : ClsS) (sK : SwpS) (v1 : Int) (v2 : Int) (v3 : Int) (r : ClsS) (hf : p_X1_putClass sC v1 v2 v3 = some r) : xMv l yX1_putClass wsX1_putClass rmX1_putClass g [.ref (aC 0), .int (iI v1), .int (iI v2), .int (iI v3)] ((wC g aC (aK 0) rr sC ++ wS g aK sK) ++ wR g rr sC.classOf) ((wC g aC (aK 0) rr r ++ wS g aK sK) ++ wR g rr r.classOf) := by
  refine x_ofW_v (own := RX1) (by decide) rfl rfl (Nat.le_of_ble_eq_true rfl) ?_
  intro p e s m args below meth c ls A QQ C hRet Z hl
  have hl : lv_has ls 4 [(0, .ref (aC 0)), (1, .int (iI v1)), (2, .int (iI v2)), (3, .int (iI v3))] := hl
  unfold p_X1_putClass at hf
  refine lv_iload_n C.1 C.2.1 dX1_putClass_0 rfl (lv_at hl 1 rfl) ?_
  have q1 := (ck_some hf).1
  have h2 := (ck_some hf).2
  clear hf
  refine x_if_lt (tgt := 29) C dX1_putClass_1 (by decide) q1 (fun c3 => ?_) (fun c3 => ?_)
  · have h4 := if_p h2 c3
    clear h2
    have h6 := Option.some.inj h4
    subst h6
    exact hRet _ _ _ _ Z dX1_putClass_29
  · have h5 := if_n h2 c3
    clear h2
    refine lv_iload_n C.1 C.2.1 dX1_putClass_4 rfl (lv_at hl 1 rfl) ?_
    refine x_bipush C dX1_putClass_5 (by decide) ?_
    refine x_icmp_ge (tgt := 29) C dX1_putClass_7 (by decide) q1 (by decide) (fun c7 => ?_) (fun c7 => ?_)
    · have h8 := if_n h5 c7
      clear h5
      have h10 := Option.some.inj h8
      subst h10
      exact hRet _ _ _ _ Z dX1_putClass_29
    · have h9 := if_p h5 c7
      clear h5
      refine lv_iload_n C.1 C.2.1 dX1_putClass_10 rfl (lv_at hl 2 rfl) ?_
      have q11 := (ck_some h9).1
      have h12 := (ck_some h9).2
      clear h9
      refine x_if_lt (tgt := 29) C dX1_putClass_11 (by decide) q11 (fun c13 => ?_) (fun c13 => ?_)
      · have h14 := if_p h12 c13
        clear h12
        have h16 := Option.some.inj h14
        subst h16
        exact hRet _ _ _ _ Z dX1_putClass_29
      · have h15 := if_n h12 c13
        clear h12
        refine lv_iload_n C.1 C.2.1 dX1_putClass_14 rfl (lv_at hl 2 rfl) ?_
        refine x_bipush C dX1_putClass_15 (by decide) ?_
        refine x_icmp_gt (tgt := 29) C dX1_putClass_17 (by decide) q11 (by decide) (fun c17 => ?_) (fun c17 => ?_)
        · have h18 := if_p h15 c17
          clear h15
          have h20 := Option.some.inj h18
          subst h20
          exact hRet _ _ _ _ Z dX1_putClass_29
        · have h19 := if_n h15 c17
          clear h15
          refine lv_aload_n C.1 C.2.1 dX1_putClass_20 rfl (lv_at hl 0 rfl) ?_
          refine x_get C Z 0 rfl rfl i_X1_X1_putClass (k := 2) (by decide) (List.mem_of_getElem? (i := 1) rfl) rfl dX1_putClass_21 ?_
          refine lv_iload_n C.1 C.2.1 dX1_putClass_24 rfl (lv_at hl 1 rfl) ?_
          have q21 := (ix_some h19).1
          have h22 := (ix_some h19).2
          clear h19
          refine x_aald C Z 2 rfl q21 dX1_putClass_25 ?_
          refine lv_iload_n C.1 C.2.1 dX1_putClass_26 rfl (lv_at hl 2 rfl) ?_
          refine lv_iload_n C.1 C.2.1 dX1_putClass_27 rfl (lv_at hl 3 rfl) ?_
          have q23 := (ix_some h22).1
          have h24 := (ix_some h22).2
          clear h22
          refine x_rast C Z q21 q23 dX1_putClass_28 (fun H locs Z => ?_)
          have Z : xSt g A s ((wC g aC (aK 0) rr (sC.endCounts, up2 sC.classOf v1 (up (sC.classOf v1) v2 v3), sC.firstEnds, sC.longest, sC.shortest, sC.ends, sC.links, sC.wordSets, sC.stepSets, sC.letterSet, sC.size, sC.version) ++ wS g aK sK) ++ wR g rr (up2 sC.classOf v1 (up (sC.classOf v1) v2 v3))) H locs := Z
          have h25 := Option.some.inj h24
          subst h25
          exact hRet _ _ _ _ Z dX1_putClass_29
abbrev rmX1_takeKnown : Room := { frames := 1, cells := 0, slots := 0, locals := 23 }
theorem yk_X1_takeKnown : xY yX1_takeKnown RX1 cX1_takeKnown 5 (some .int) wsX1_takeKnown rmX1_takeKnown 1 := ⟨⟨_, rfl⟩, by decide +kernel, rfl, rfl⟩
theorem i_X1_X1_takeKnown : ∀ w ∈ u_ws RX1 TX1 13, w ∈ wsX1_takeKnown := fun _ h => List.mem_cons_of_mem _ (List.mem_append_left _ (List.mem_append_right _ h))
theorem i_X4_X1_takeKnown : ∀ w ∈ u_ws RX4 TX4 1, w ∈ wsX1_takeKnown := fun _ h => List.mem_cons_of_mem _ (List.mem_append_right _ h)
set_option maxHeartbeats 4000000 in
set_option maxRecDepth 100000 in
theorem k_X1_takeKnown (l : Launch) (g : xG) (n : Nat) (aC : Nat → Nat) (aK : Nat → Nat) (rr : Nat → Nat) (sC : ClsS) (sK : SwpS) (v1 : Int) (r : Int × ClsS) (hf : p_X1_takeKnown n sC sK v1 = some r) : xMi l yX1_takeKnown wsX1_takeKnown rmX1_takeKnown g [.ref (aC 0), .int (iI v1)] ((wC g aC (aK 0) rr sC ++ wS g aK sK) ++ wR g rr sC.classOf) ((wC g aC (aK 0) rr r.2 ++ wS g aK sK) ++ wR g rr r.2.classOf) r.1 := by
  refine x_ofW_i (own := RX1) (by decide) rfl rfl (Nat.le_of_ble_eq_true rfl) ?_
  intro p e s m args below meth c ls A QQ C hRet Z hl
  have hl : lv_has ls 5 [(0, .ref (aC 0)), (1, .int (iI v1))] := hl
  unfold p_X1_takeKnown at hf
  refine x_iconst C dX1_takeKnown_0 ?_
  refine lv_istore_n (lv' := [(2, .int (iI 0)), (0, .ref (aC 0)), (1, .int (iI v1))]) C.1 C.2.1 dX1_takeKnown_1 rfl hl (by decide) rfl (fun ls hl => ?_)
  refine x_iconst C dX1_takeKnown_2 ?_
  refine lv_istore_n (lv' := [(3, .int (iI 0)), (2, .int (iI 0)), (0, .ref (aC 0)), (1, .int (iI v1))]) C.1 C.2.1 dX1_takeKnown_3 rfl hl (by decide) rfl (fun ls hl => ?_)
  refine x_iconst C dX1_takeKnown_4 ?_
  refine lv_istore (lv' := [(4, .int (iI 0)), (3, .int (iI 0)), (2, .int (iI 0)), (0, .ref (aC 0)), (1, .int (iI v1))]) C.1 C.2.1 dX1_takeKnown_5 hl (by decide) rfl (fun ls hl => ?_)
  obtain ⟨ex7, hl7, h39⟩ := bd_some hf
  clear hf
  have hK7 : ∀ (H : Heap) (locs : List Loc) (ls : Array Slot), xSt g A s ((wC g aC (aK 0) rr sC ++ wS g aK sK) ++ wR g rr sC.classOf) H locs → lv_has ls 5 [(0, .ref (aC 0)), (1, .int (iI v1)), (2, .int (iI ex7.1)), (3, .int (iI ex7.2))] → W p l e rmX1_takeKnown s m args below meth c H locs 0 0 QQ (F0 m 45 ls []) := by
    intro H locs ls Z hl
    have h40 := h39
    clear h39
    refine x_iconst C dX1_takeKnown_45 ?_
    refine lv_istore (lv' := [(4, .int (iI 1)), (0, .ref (aC 0)), (1, .int (iI v1)), (2, .int (iI ex7.1)), (3, .int (iI ex7.2))]) C.1 C.2.1 dX1_takeKnown_46 hl (by decide) rfl (fun ls hl => ?_)
    obtain ⟨ex48, hl48, h65⟩ := bd_some h40
    clear h40
    have hK48 : ∀ (H : Heap) (locs : List Loc) (ls : Array Slot), xSt g A s ((wC g aC (aK 0) rr ex48 ++ wS g aK sK) ++ wR g rr ex48.classOf) H locs → lv_has ls 5 [(2, .int (iI ex7.1))] → W p l e rmX1_takeKnown s m args below meth c H locs 0 0 QQ (F0 m 74 ls []) := by
      intro H locs ls Z hl
      have h66 := h65
      clear h65
      refine lv_iload_n C.1 C.2.1 dX1_takeKnown_74 rfl (lv_at hl 0 rfl) ?_
      have h67 := Option.some.inj h66
      subst h67
      exact hRet _ _ _ _ Z dX1_takeKnown_75
    have hL48 : ∀ (k48 : Nat) (z48 : Int × ClsS) (H : Heap) (locs : List Loc) (ls : Array Slot), lp (p_X1_takeKnown_b48 n v1 ex7.1 ex7.2) k48 z48 = some ex48 → xSt g A s ((wC g aC (aK 0) rr z48.2 ++ wS g aK sK) ++ wR g rr z48.2.classOf) H locs → lv_has ls 5 [(0, .ref (aC 0)), (1, .int (iI v1)), (2, .int (iI ex7.1)), (3, .int (iI ex7.2)), (4, .int (iI z48.1))] → W p l e rmX1_takeKnown s m args below meth c H locs 0 0 QQ (F0 m 48 ls []) := by
      intro k48
      induction k48 with
      | zero => intro z48 H locs ls h; exact (lp_0 h).elim
      | succ k48 ih48 =>
        intro z48 H locs ls h Z hl
        obtain ⟨x48, hb48, hx48⟩ := lp_s h
        clear h
        unfold p_X1_takeKnown_b48 at hb48
        refine lv_iload C.1 C.2.1 dX1_takeKnown_48 (lv_at hl 4 rfl) ?_
        refine lv_iload_n C.1 C.2.1 dX1_takeKnown_50 rfl (lv_at hl 2 rfl) ?_
        have q53 := (ck_some hb48).1
        have h54 := (ck_some hb48).2
        clear hb48
        have q55 := (ck_some h54).1
        have h56 := (ck_some h54).2
        clear h54
        refine x_icmp_gt (tgt := 74) C dX1_takeKnown_51 (by decide) q53 q55 (fun c57 => ?_) (fun c57 => ?_)
        · have h58 := if_p h56 c57
          clear h56
          cases h58
          have h60 := lp_R hx48
          subst h60
          exact hK48 _ _ _ Z (lv_sub hl [2] rfl)
        · have h59 := if_n h56 c57
          clear h56
          refine lv_aload_n C.1 C.2.1 dX1_takeKnown_54 rfl (lv_at hl 0 rfl) ?_
          refine lv_iload_n C.1 C.2.1 dX1_takeKnown_55 rfl (lv_at hl 1 rfl) ?_
          refine lv_iload C.1 C.2.1 dX1_takeKnown_56 (lv_at hl 4 rfl) ?_
          refine lv_aload_n C.1 C.2.1 dX1_takeKnown_58 rfl (lv_at hl 0 rfl) ?_
          refine lv_iload_n C.1 C.2.1 dX1_takeKnown_59 rfl (lv_at hl 3 rfl) ?_
          refine lv_iload C.1 C.2.1 dX1_takeKnown_60 (lv_at hl 4 rfl) ?_
          obtain ⟨r61, hr61, h62⟩ := bd_some h59
          clear h59
          refine x_callV_i_id (As := [.int (iI ex7.2), .int (iI z48.1)]) (rest := [.int (iI z48.1), .int (iI v1), .ref (aC 0)]) (q0 := 0) C Z (k_X1_classAt l g n aC aK rr z48.2 sK ex7.2 z48.1 r61 hr61) gX1_takeKnown_X1_classAt yk_X1_classAt ⟨Nat.le_of_ble_eq_true rfl, Nat.le_of_ble_eq_true rfl⟩ rfl rfl ⟨Nat.zero_le _, Nat.zero_le _⟩ hl.1 rfl (Nat.le_of_ble_eq_true rfl) rfl dX1_takeKnown_62 (fun H locs Z => ?_)
          obtain ⟨r63, hr63, h64⟩ := bd_some h62
          clear h62
          refine x_callV_v_id (As := [.int (iI v1), .int (iI z48.1), .int (iI r61)]) (rest := []) (q0 := 0) C Z (k_X1_putClass l g n aC aK rr z48.2 sK v1 z48.1 r61 r63 hr63) gX1_takeKnown_X1_putClass yk_X1_putClass ⟨Nat.le_of_ble_eq_true rfl, Nat.le_of_ble_eq_true rfl⟩ rfl rfl ⟨Nat.zero_le _, Nat.zero_le _⟩ hl.1 rfl (Nat.le_of_ble_eq_true rfl) rfl dX1_takeKnown_65 (fun H locs Z => ?_)
          refine x_iinc (lv' := [(4, .int (iI (z48.1 + 1))), (0, .ref (aC 0)), (1, .int (iI v1)), (2, .int (iI ex7.1)), (3, .int (iI ex7.2))]) C dX1_takeKnown_68 hl (k := 4) rfl (by decide) rfl (fun ls hl => ?_)
          refine lv_goto (tgt := 48) C.1 C.2.1 dX1_takeKnown_71 (by decide) ?_
          cases h64
          exact ih48 (z48.1 + 1, r63) _ _ _ (lp_L2 hx48) Z (lv_sub hl [1, 2, 3, 4, 0] rfl)
    exact hL48 n (1, sC) _ _ _ hl48 Z (lv_sub hl [1, 2, 3, 4, 0] rfl)
  have hL7 : ∀ (k7 : Nat) (z7 : Int × Int × Int) (H : Heap) (locs : List Loc) (ls : Array Slot), lp (p_X1_takeKnown_b7 n sK v1) k7 z7 = some ex7 → xSt g A s ((wC g aC (aK 0) rr sC ++ wS g aK sK) ++ wR g rr sC.classOf) H locs → lv_has ls 5 [(0, .ref (aC 0)), (1, .int (iI v1)), (2, .int (iI z7.1)), (3, .int (iI z7.2.1)), (4, .int (iI z7.2.2))] → W p l e rmX1_takeKnown s m args below meth c H locs 0 0 QQ (F0 m 7 ls []) := by
    intro k7
    induction k7 with
    | zero => intro z7 H locs ls h; exact (lp_0 h).elim
    | succ k7 ih7 =>
      intro z7 H locs ls h Z hl
      obtain ⟨x7, hb7, hx7⟩ := lp_s h
      clear h
      unfold p_X1_takeKnown_b7 at hb7
      refine lv_iload C.1 C.2.1 dX1_takeKnown_7 (lv_at hl 4 rfl) ?_
      refine lv_iload_n C.1 C.2.1 dX1_takeKnown_9 rfl (lv_at hl 1 rfl) ?_
      have q20 := (ck_some hb7).1
      have h21 := (ck_some hb7).2
      clear hb7
      have q22 := (ck_some h21).1
      have h23 := (ck_some h21).2
      clear h21
      refine x_icmp_ge (tgt := 45) C dX1_takeKnown_10 (by decide) q20 q22 (fun c24 => ?_) (fun c24 => ?_)
      · have h25 := if_n h23 c24
        clear h23
        cases h25
        have h27 := lp_R hx7
        subst h27
        exact hK7 _ _ _ Z (lv_sub hl [0, 1, 2, 3] rfl)
      · have h26 := if_p h23 c24
        clear h23
        refine lv_aload_n C.1 C.2.1 dX1_takeKnown_13 rfl (lv_at hl 0 rfl) ?_
        refine x_get C Z 0 rfl rfl i_X1_X1_takeKnown (k := 0) (by decide) (List.mem_of_getElem? (i := 1) rfl) rfl dX1_takeKnown_14 ?_
        refine lv_iload C.1 C.2.1 dX1_takeKnown_17 (lv_at hl 4 rfl) ?_
        obtain ⟨r28, hr28, h29⟩ := bd_some h26
        clear h26
        refine x_callV_i_Q (As := [.int (iI z7.2.2)]) (rest := []) (q0 := 0) (X2 := (wC g aC (aK 0) rr sC ++ wS g aK sK)) C Z fr_CK_1 (k_X4_lengthAt l g n aK sK z7.2.2 r28 hr28) gX1_takeKnown_X4_lengthAt yk_X4_lengthAt ⟨Nat.le_of_ble_eq_true rfl, Nat.le_of_ble_eq_true rfl⟩ rfl rfl ⟨Nat.zero_le _, Nat.zero_le _⟩ hl.1 rfl (Nat.le_of_ble_eq_true rfl) rfl dX1_takeKnown_19 (fun H locs Z => ?_)
        refine lv_iload_n C.1 C.2.1 dX1_takeKnown_22 rfl (lv_at hl 2 rfl) ?_
        have q30 := (ck_some h29).1
        have h31 := (ck_some h29).2
        clear h29
        have q32 := (ck_some h31).1
        have h33 := (ck_some h31).2
        clear h31
        refine x_icmp_le (tgt := 39) C dX1_takeKnown_23 (by decide) q30 q32 (fun c34 => ?_) (fun c34 => ?_)
        · have h35 := if_n h33 c34
          clear h33
          refine x_iinc (lv' := [(4, .int (iI (z7.2.2 + 1))), (0, .ref (aC 0)), (1, .int (iI v1)), (2, .int (iI z7.1)), (3, .int (iI z7.2.1))]) C dX1_takeKnown_39 hl (k := 4) rfl (by decide) rfl (fun ls hl => ?_)
          refine lv_goto (tgt := 7) C.1 C.2.1 dX1_takeKnown_42 (by decide) ?_
          cases h35
          exact ih7 (z7.1, z7.2.1, z7.2.2 + 1) _ _ _ (lp_L2 hx7) Z (lv_sub hl [1, 2, 3, 4, 0] rfl)
        · have h36 := if_p h33 c34
          clear h33
          refine lv_aload_n C.1 C.2.1 dX1_takeKnown_26 rfl (lv_at hl 0 rfl) ?_
          refine x_get C Z 0 rfl rfl i_X1_X1_takeKnown (k := 0) (by decide) (List.mem_of_getElem? (i := 1) rfl) rfl dX1_takeKnown_27 ?_
          refine lv_iload C.1 C.2.1 dX1_takeKnown_30 (lv_at hl 4 rfl) ?_
          obtain ⟨r37, hr37, h38⟩ := bd_some h36
          clear h36
          refine x_callV_i_Q (As := [.int (iI z7.2.2)]) (rest := []) (q0 := 0) (X2 := (wC g aC (aK 0) rr sC ++ wS g aK sK)) C Z fr_CK_1 (k_X4_lengthAt l g n aK sK z7.2.2 r37 hr37) gX1_takeKnown_X4_lengthAt yk_X4_lengthAt ⟨Nat.le_of_ble_eq_true rfl, Nat.le_of_ble_eq_true rfl⟩ rfl rfl ⟨Nat.zero_le _, Nat.zero_le _⟩ hl.1 rfl (Nat.le_of_ble_eq_true rfl) rfl dX1_takeKnown_32 (fun H locs Z => ?_)
          refine lv_istore_n (lv' := [(2, .int (iI r37)), (0, .ref (aC 0)), (1, .int (iI v1)), (3, .int (iI z7.2.1)), (4, .int (iI z7.2.2))]) C.1 C.2.1 dX1_takeKnown_35 rfl hl (by decide) rfl (fun ls hl => ?_)
          refine lv_iload C.1 C.2.1 dX1_takeKnown_36 (lv_at hl 4 rfl) ?_
          refine lv_istore_n (lv' := [(3, .int (iI z7.2.2)), (2, .int (iI r37)), (0, .ref (aC 0)), (1, .int (iI v1)), (4, .int (iI z7.2.2))]) C.1 C.2.1 dX1_takeKnown_38 rfl hl (by decide) rfl (fun ls hl => ?_)
          refine x_iinc (lv' := [(4, .int (iI (z7.2.2 + 1))), (3, .int (iI z7.2.2)), (2, .int (iI r37)), (0, .ref (aC 0)), (1, .int (iI v1))]) C dX1_takeKnown_39 hl (k := 4) rfl (by decide) rfl (fun ls hl => ?_)
          refine lv_goto (tgt := 7) C.1 C.2.1 dX1_takeKnown_42 (by decide) ?_
          cases h38
          exact ih7 (r37, z7.2.2, z7.2.2 + 1) _ _ _ (lp_L2 hx7) Z (lv_sub hl [3, 4, 2, 1, 0] rfl)
  exact hL7 n (0, 0, 0) _ _ _ hl7 Z (lv_sub hl [3, 4, 2, 1, 0] rfl)
abbrev rmX5_wordAt : Room := { frames := 1, cells := 0, slots := 0, locals := 21 }
theorem yk_X5_wordAt : xY yX5_wordAt RX5 cX5_wordAt 2 (some .int) wsX5_wordAt rmX5_wordAt 1 := ⟨⟨_, rfl⟩, by decide +kernel, rfl, rfl⟩
theorem i_X5_X5_wordAt : ∀ w ∈ u_ws RX5 TX5 8, w ∈ wsX5_wordAt := fun _ h => List.mem_cons_of_mem _ (List.mem_append_right _ h)
set_option maxHeartbeats 4000000 in
set_option maxRecDepth 100000 in
theorem k_X5_wordAt (l : Launch) (g : xG) (n : Nat) (aT : Nat → Nat) (sT : TxtS) (v1 : Int) (r : Int) (hf : p_X5_wordAt sT v1 = some r) : xMi l yX5_wordAt wsX5_wordAt rmX5_wordAt g [.ref (aT 0), .int (iI v1)] (wT g aT sT) (wT g aT sT) r := by
  refine x_ofW_i (own := RX5) (by decide) rfl rfl (Nat.le_of_ble_eq_true rfl) ?_
  intro p e s m args below meth c ls A QQ C hRet Z hl
  have hl : lv_has ls 2 [(0, .ref (aT 0)), (1, .int (iI v1))] := hl
  unfold p_X5_wordAt at hf
  refine lv_aload_n C.1 C.2.1 dX5_wordAt_0 rfl (lv_at hl 0 rfl) ?_
  refine lv_iload_n C.1 C.2.1 dX5_wordAt_1 rfl (lv_at hl 1 rfl) ?_
  obtain ⟨r1, hr1, h2⟩ := bd_some hf
  clear hf
  refine x_callV_i_id (As := [.int (iI v1)]) (rest := []) (q0 := 0) C Z (k_X5_has l g n aT sT v1 r1 hr1) gX5_wordAt_X5_has yk_X5_has ⟨Nat.le_of_ble_eq_true rfl, Nat.le_of_ble_eq_true rfl⟩ rfl rfl ⟨Nat.zero_le _, Nat.zero_le _⟩ hl.1 rfl (Nat.le_of_ble_eq_true rfl) rfl dX5_wordAt_2 (fun H locs Z => ?_)
  have q3 := (ck_some h2).1
  have h4 := (ck_some h2).2
  clear h2
  refine x_if_eq (tgt := 17) C dX5_wordAt_5 (by decide) q3 (fun c5 => ?_) (fun c5 => ?_)
  · have h6 := if_p h4 c5
    clear h4
    refine x_iconst C dX5_wordAt_17 ?_
    have h8 := Option.some.inj h6
    subst h8
    exact hRet _ _ _ _ Z dX5_wordAt_18
  · have h7 := if_n h4 c5
    clear h4
    refine lv_aload_n C.1 C.2.1 dX5_wordAt_8 rfl (lv_at hl 0 rfl) ?_
    refine x_get C Z 0 rfl rfl i_X5_X5_wordAt (k := 1) (by decide) (List.mem_of_getElem? (i := 1) rfl) rfl dX5_wordAt_9 ?_
    refine lv_iload_n C.1 C.2.1 dX5_wordAt_12 rfl (lv_at hl 1 rfl) ?_
    have q9 := (ix_some h7).1
    have h10 := (ix_some h7).2
    clear h7
    refine x_iald C Z 2 rfl (by decide) q9 dX5_wordAt_13 ?_
    refine lv_goto (tgt := 18) C.1 C.2.1 dX5_wordAt_14 (by decide) ?_
    have h11 := Option.some.inj h10
    subst h11
    exact hRet _ _ _ _ Z dX5_wordAt_18
abbrev rmX5_lettersFrom : Room := { frames := 1, cells := 0, slots := 0, locals := 21 }
theorem yk_X5_lettersFrom : xY yX5_lettersFrom RX5 cX5_lettersFrom 2 (some .int) wsX5_lettersFrom rmX5_lettersFrom 1 := ⟨⟨_, rfl⟩, by decide +kernel, rfl, rfl⟩
theorem i_X5_X5_lettersFrom : ∀ w ∈ u_ws RX5 TX5 8, w ∈ wsX5_lettersFrom := fun _ h => List.mem_cons_of_mem _ (List.mem_append_right _ h)
set_option maxHeartbeats 4000000 in
set_option maxRecDepth 100000 in
theorem k_X5_lettersFrom (l : Launch) (g : xG) (n : Nat) (aT : Nat → Nat) (sT : TxtS) (v1 : Int) (r : Int) (hf : p_X5_lettersFrom sT v1 = some r) : xMi l yX5_lettersFrom wsX5_lettersFrom rmX5_lettersFrom g [.ref (aT 0), .int (iI v1)] (wT g aT sT) (wT g aT sT) r := by
  refine x_ofW_i (own := RX5) (by decide) rfl rfl (Nat.le_of_ble_eq_true rfl) ?_
  intro p e s m args below meth c ls A QQ C hRet Z hl
  have hl : lv_has ls 2 [(0, .ref (aT 0)), (1, .int (iI v1))] := hl
  unfold p_X5_lettersFrom at hf
  refine lv_aload_n C.1 C.2.1 dX5_lettersFrom_0 rfl (lv_at hl 0 rfl) ?_
  refine lv_iload_n C.1 C.2.1 dX5_lettersFrom_1 rfl (lv_at hl 1 rfl) ?_
  obtain ⟨r1, hr1, h2⟩ := bd_some hf
  clear hf
  refine x_callV_i_id (As := [.int (iI v1)]) (rest := []) (q0 := 0) C Z (k_X5_has l g n aT sT v1 r1 hr1) gX5_lettersFrom_X5_has yk_X5_has ⟨Nat.le_of_ble_eq_true rfl, Nat.le_of_ble_eq_true rfl⟩ rfl rfl ⟨Nat.zero_le _, Nat.zero_le _⟩ hl.1 rfl (Nat.le_of_ble_eq_true rfl) rfl dX5_lettersFrom_2 (fun H locs Z => ?_)
  have q3 := (ck_some h2).1
  have h4 := (ck_some h2).2
  clear h2
  refine x_if_eq (tgt := 17) C dX5_lettersFrom_5 (by decide) q3 (fun c5 => ?_) (fun c5 => ?_)
  · have h6 := if_p h4 c5
    clear h4
    refine x_iconst C dX5_lettersFrom_17 ?_
    have h8 := Option.some.inj h6
    subst h8
    exact hRet _ _ _ _ Z dX5_lettersFrom_18
  · have h7 := if_n h4 c5
    clear h4
    refine lv_aload_n C.1 C.2.1 dX5_lettersFrom_8 rfl (lv_at hl 0 rfl) ?_
    refine x_get C Z 0 rfl rfl i_X5_X5_lettersFrom (k := 3) (by decide) (List.mem_of_getElem? (i := 1) rfl) rfl dX5_lettersFrom_9 ?_
    refine lv_iload_n C.1 C.2.1 dX5_lettersFrom_12 rfl (lv_at hl 1 rfl) ?_
    have q9 := (ix_some h7).1
    have h10 := (ix_some h7).2
    clear h7
    refine x_iald C Z 4 rfl (by decide) q9 dX5_lettersFrom_13 ?_
    refine lv_goto (tgt := 18) C.1 C.2.1 dX5_lettersFrom_14 (by decide) ?_
    have h11 := Option.some.inj h10
    subst h11
    exact hRet _ _ _ _ Z dX5_lettersFrom_18
abbrev rmX1_addClass : Room := { frames := 2, cells := 0, slots := 0, locals := 42 }
theorem yk_X1_addClass : xY yX1_addClass RX1 cX1_addClass 8 none wsX1_addClass rmX1_addClass 4 := ⟨⟨_, rfl⟩, by decide +kernel, rfl, rfl⟩
theorem i_X1_X1_addClass : ∀ w ∈ u_ws RX1 TX1 13, w ∈ wsX1_addClass := fun _ h => List.mem_cons_of_mem _ (List.mem_append_left _ (List.mem_append_left _ (List.mem_append_right _ h)))
theorem i_X4_X1_addClass : ∀ w ∈ u_ws RX4 TX4 1, w ∈ wsX1_addClass := fun _ h => List.mem_cons_of_mem _ (List.mem_append_right _ h)
theorem i_X5_X1_addClass : ∀ w ∈ u_ws RX5 TX5 8, w ∈ wsX1_addClass := fun _ h => List.mem_cons_of_mem _ (List.mem_append_left _ (List.mem_append_right _ h))
set_option maxHeartbeats 4000000 in
set_option maxRecDepth 100000 in
theorem k_X1_addClass (l : Launch) (g : xG) (n : Nat) (aC : Nat → Nat) (aK : Nat → Nat) (aT : Nat → Nat) (rr : Nat → Nat) (sC : ClsS) (sK : SwpS) (sT : TxtS) (v2 : Int) (v3 : Int) (v4 : Int) (r : ClsS) (hf : p_X1_addClass n sC sK sT v2 v3 v4 = some r) : xMv l yX1_addClass wsX1_addClass rmX1_addClass g [.ref (aC 0), .ref (aT 0), .int (iI v2), .int (iI v3), .int (iI v4)] ((wC g aC (aK 0) rr sC ++ (wS g aK sK ++ wT g aT sT)) ++ wR g rr sC.classOf) ((wC g aC (aK 0) rr r ++ (wS g aK sK ++ wT g aT sT)) ++ wR g rr r.classOf) := by
  refine x_ofW_v (own := RX1) (by decide) rfl rfl (Nat.le_of_ble_eq_true rfl) ?_
  intro p e s m args below meth c ls A QQ C hRet Z hl
  have hl : lv_has ls 8 [(0, .ref (aC 0)), (1, .ref (aT 0)), (2, .int (iI v2)), (3, .int (iI v3)), (4, .int (iI v4))] := hl
  unfold p_X1_addClass at hf
  have hJ176 : ∀ (sC_176 : ClsS) (v5_176 : Int) (v6_176 : Int) (t1_176 : Int) (t2_176 : Int) (H : Heap) (locs : List Loc) (ls : Array Slot), p_X1_addClass_j176 n sC_176 v5_176 v6_176 t1_176 t2_176 = some r → xSt g A s ((wC g aC (aK 0) rr sC_176 ++ (wS g aK sK ++ wT g aT sT)) ++ wR g rr sC_176.classOf) H locs → lv_has ls 8 [(0, .ref (aC 0)), (5, .int (iI v5_176)), (6, .int (iI v6_176))] → W p l e rmX1_addClass s m args below meth c H locs 0 0 QQ (F0 m 176 ls [.int (iI t2_176), .int (iI t1_176), .ref (aC 7)]) := by
    intro sC_176 v5_176 v6_176 t1_176 t2_176 H locs ls hj176 Z hl
    unfold p_X1_addClass_j176 at hj176
    have q1 := (ix_some hj176).1
    have h2 := (ix_some hj176).2
    clear hj176
    refine x_iast (ws2 := (wC g aC (aK 0) rr (sC_176.endCounts, sC_176.classOf, sC_176.firstEnds, sC_176.longest, sC_176.shortest, sC_176.ends, up sC_176.links t1_176 t2_176, sC_176.wordSets, sC_176.stepSets, sC_176.letterSet, sC_176.size, sC_176.version) ++ (wS g aK sK ++ wT g aT sT)) ++ wR g rr sC_176.classOf) C Z 7 rfl (by decide) q1 dX1_addClass_176 rfl (fun H locs Z => ?_)
    refine lv_aload_n C.1 C.2.1 dX1_addClass_177 rfl (lv_at hl 0 rfl) ?_
    refine x_get C Z 0 rfl rfl i_X1_X1_addClass (k := 8) (by decide) (List.mem_of_getElem? (i := 9) rfl) rfl dX1_addClass_178 ?_
    refine lv_aload_n C.1 C.2.1 dX1_addClass_181 rfl (lv_at hl 0 rfl) ?_
    refine x_get C Z 0 rfl rfl i_X1_X1_addClass (k := 11) (by decide) (List.mem_of_getElem? (i := 1) rfl) rfl dX1_addClass_182 ?_
    refine lv_iload C.1 C.2.1 dX1_addClass_185 (lv_at hl 1 rfl) ?_
    have q3 := (ix_some h2).1
    have h4 := (ix_some h2).2
    clear h2
    refine x_iast (ws2 := (wC g aC (aK 0) rr (sC_176.endCounts, sC_176.classOf, sC_176.firstEnds, sC_176.longest, sC_176.shortest, sC_176.ends, up sC_176.links t1_176 t2_176, up sC_176.wordSets sC_176.size v5_176, sC_176.stepSets, sC_176.letterSet, sC_176.size, sC_176.version) ++ (wS g aK sK ++ wT g aT sT)) ++ wR g rr sC_176.classOf) C Z 8 rfl (by decide) q3 dX1_addClass_187 rfl (fun H locs Z => ?_)
    refine lv_aload_n C.1 C.2.1 dX1_addClass_188 rfl (lv_at hl 0 rfl) ?_
    refine x_get C Z 0 rfl rfl i_X1_X1_addClass (k := 9) (by decide) (List.mem_of_getElem? (i := 10) rfl) rfl dX1_addClass_189 ?_
    refine lv_aload_n C.1 C.2.1 dX1_addClass_192 rfl (lv_at hl 0 rfl) ?_
    refine x_get C Z 0 rfl rfl i_X1_X1_addClass (k := 11) (by decide) (List.mem_of_getElem? (i := 1) rfl) rfl dX1_addClass_193 ?_
    refine lv_iload C.1 C.2.1 dX1_addClass_196 (lv_at hl 2 rfl) ?_
    refine x_iast (ws2 := (wC g aC (aK 0) rr (sC_176.endCounts, sC_176.classOf, sC_176.firstEnds, sC_176.longest, sC_176.shortest, sC_176.ends, up sC_176.links t1_176 t2_176, up sC_176.wordSets sC_176.size v5_176, up sC_176.stepSets sC_176.size v6_176, sC_176.letterSet, sC_176.size, sC_176.version) ++ (wS g aK sK ++ wT g aT sT)) ++ wR g rr sC_176.classOf) C Z 9 rfl (by decide) q3 dX1_addClass_198 rfl (fun H locs Z => ?_)
    refine lv_aload_n C.1 C.2.1 dX1_addClass_199 rfl (lv_at hl 0 rfl) ?_
    refine lv_dup C.1 C.2.1 dX1_addClass_200 rfl ?_
    refine x_get C Z 0 rfl rfl i_X1_X1_addClass (k := 11) (by decide) (List.mem_of_getElem? (i := 1) rfl) rfl dX1_addClass_201 ?_
    refine x_iconst C dX1_addClass_204 ?_
    refine x_iadd C dX1_addClass_205 ?_
    refine x_put (ws2 := (wC g aC (aK 0) rr (sC_176.endCounts, sC_176.classOf, sC_176.firstEnds, sC_176.longest, sC_176.shortest, sC_176.ends, up sC_176.links t1_176 t2_176, up sC_176.wordSets sC_176.size v5_176, up sC_176.stepSets sC_176.size v6_176, sC_176.letterSet, sC_176.size + 1, sC_176.version) ++ (wS g aK sK ++ wT g aT sT)) ++ wR g rr sC_176.classOf) C Z 0 rfl rfl i_X1_X1_addClass tyX1_ok nmX1 (k := 11) (by decide) (List.mem_of_getElem? (i := 1) rfl) rfl rfl (Nat.le_of_ble_eq_true rfl) dX1_addClass_206 rfl (fun H locs Z => ?_)
    have h5 := Option.some.inj h4
    subst h5
    exact hRet _ _ _ _ Z dX1_addClass_209
  refine lv_aload_n C.1 C.2.1 dX1_addClass_0 rfl (lv_at hl 0 rfl) ?_
  refine x_get C Z 0 rfl rfl i_X1_X1_addClass (k := 11) (by decide) (List.mem_of_getElem? (i := 1) rfl) rfl dX1_addClass_1 ?_
  refine x_bipush C dX1_addClass_4 (by decide) ?_
  have q6 := (ck_some hf).1
  have h7 := (ck_some hf).2
  clear hf
  refine x_icmp_ge (tgt := 22) C dX1_addClass_6 (by decide) q6 (by decide) (fun c8 => ?_) (fun c8 => ?_)
  · have h9 := if_n h7 c8
    clear h7
    have h11 := Option.some.inj h9
    subst h11
    exact hRet _ _ _ _ Z dX1_addClass_22
  · have h10 := if_p h7 c8
    clear h7
    refine lv_iload C.1 C.2.1 dX1_addClass_9 (lv_at hl 4 rfl) ?_
    refine x_iconst C dX1_addClass_11 ?_
    have q12 := (ck_some h10).1
    have h13 := (ck_some h10).2
    clear h10
    refine x_icmp_lt (tgt := 22) C dX1_addClass_12 (by decide) q12 (by decide) (fun c14 => ?_) (fun c14 => ?_)
    · have h15 := if_p h13 c14
      clear h13
      have h17 := Option.some.inj h15
      subst h17
      exact hRet _ _ _ _ Z dX1_addClass_22
    · have h16 := if_n h13 c14
      clear h13
      refine lv_iload C.1 C.2.1 dX1_addClass_15 (lv_at hl 4 rfl) ?_
      refine x_bipush C dX1_addClass_17 (by decide) ?_
      refine x_icmp_le (tgt := 23) C dX1_addClass_19 (by decide) q12 (by decide) (fun c18 => ?_) (fun c18 => ?_)
      · have h19 := if_n h16 c18
        clear h16
        refine x_iconst C dX1_addClass_23 ?_
        refine lv_istore (lv' := [(5, .int (iI 0)), (0, .ref (aC 0)), (1, .ref (aT 0)), (2, .int (iI v2)), (3, .int (iI v3)), (4, .int (iI v4))]) C.1 C.2.1 dX1_addClass_24 hl (by decide) rfl (fun ls hl => ?_)
        refine x_iconst C dX1_addClass_26 ?_
        refine lv_istore (lv' := [(6, .int (iI 0)), (5, .int (iI 0)), (0, .ref (aC 0)), (1, .ref (aT 0)), (2, .int (iI v2)), (3, .int (iI v3)), (4, .int (iI v4))]) C.1 C.2.1 dX1_addClass_27 hl (by decide) rfl (fun ls hl => ?_)
        refine x_iconst C dX1_addClass_29 ?_
        refine lv_istore (lv' := [(7, .int (iI 0)), (6, .int (iI 0)), (5, .int (iI 0)), (0, .ref (aC 0)), (1, .ref (aT 0)), (2, .int (iI v2)), (3, .int (iI v3)), (4, .int (iI v4))]) C.1 C.2.1 dX1_addClass_30 hl (by decide) rfl (fun ls hl => ?_)
        obtain ⟨ex32, hl32, h81⟩ := bd_some h19
        clear h19
        have hK32 : ∀ (H : Heap) (locs : List Loc) (ls : Array Slot), xSt g A s ((wC g aC (aK 0) rr sC ++ (wS g aK sK ++ wT g aT sT)) ++ wR g rr sC.classOf) H locs → lv_has ls 8 [(0, .ref (aC 0)), (2, .int (iI v2)), (3, .int (iI v3)), (4, .int (iI v4)), (5, .int (iI ex32.1)), (6, .int (iI ex32.2))] → W p l e rmX1_addClass s m args below meth c H locs 0 0 QQ (F0 m 103 ls []) := by
          intro H locs ls Z hl
          have h82 := h81
          clear h81
          refine lv_aload_n C.1 C.2.1 dX1_addClass_103 rfl (lv_at hl 0 rfl) ?_
          refine x_get C Z 0 rfl rfl i_X1_X1_addClass (k := 3) (by decide) (List.mem_of_getElem? (i := 3) rfl) rfl dX1_addClass_104 ?_
          refine lv_aload_n C.1 C.2.1 dX1_addClass_107 rfl (lv_at hl 0 rfl) ?_
          refine x_get C Z 0 rfl rfl i_X1_X1_addClass (k := 11) (by decide) (List.mem_of_getElem? (i := 1) rfl) rfl dX1_addClass_108 ?_
          refine lv_iload_n C.1 C.2.1 dX1_addClass_111 rfl (lv_at hl 1 rfl) ?_
          have q83 := (ix_some h82).1
          have h84 := (ix_some h82).2
          clear h82
          refine x_iast (ws2 := (wC g aC (aK 0) rr (sC.endCounts, sC.classOf, up sC.firstEnds sC.size v2, sC.longest, sC.shortest, sC.ends, sC.links, sC.wordSets, sC.stepSets, sC.letterSet, sC.size, sC.version) ++ (wS g aK sK ++ wT g aT sT)) ++ wR g rr sC.classOf) C Z 3 rfl (by decide) q83 dX1_addClass_112 rfl (fun H locs Z => ?_)
          refine lv_aload_n C.1 C.2.1 dX1_addClass_113 rfl (lv_at hl 0 rfl) ?_
          refine x_get C Z 0 rfl rfl i_X1_X1_addClass (k := 4) (by decide) (List.mem_of_getElem? (i := 4) rfl) rfl dX1_addClass_114 ?_
          refine lv_aload_n C.1 C.2.1 dX1_addClass_117 rfl (lv_at hl 0 rfl) ?_
          refine x_get C Z 0 rfl rfl i_X1_X1_addClass (k := 11) (by decide) (List.mem_of_getElem? (i := 1) rfl) rfl dX1_addClass_118 ?_
          refine lv_iload C.1 C.2.1 dX1_addClass_121 (lv_at hl 3 rfl) ?_
          refine x_iast (ws2 := (wC g aC (aK 0) rr (sC.endCounts, sC.classOf, up sC.firstEnds sC.size v2, up sC.longest sC.size v4, sC.shortest, sC.ends, sC.links, sC.wordSets, sC.stepSets, sC.letterSet, sC.size, sC.version) ++ (wS g aK sK ++ wT g aT sT)) ++ wR g rr sC.classOf) C Z 4 rfl (by decide) q83 dX1_addClass_123 rfl (fun H locs Z => ?_)
          refine lv_aload_n C.1 C.2.1 dX1_addClass_124 rfl (lv_at hl 0 rfl) ?_
          refine x_get C Z 0 rfl rfl i_X1_X1_addClass (k := 5) (by decide) (List.mem_of_getElem? (i := 5) rfl) rfl dX1_addClass_125 ?_
          refine lv_aload_n C.1 C.2.1 dX1_addClass_128 rfl (lv_at hl 0 rfl) ?_
          refine x_get C Z 0 rfl rfl i_X1_X1_addClass (k := 11) (by decide) (List.mem_of_getElem? (i := 1) rfl) rfl dX1_addClass_129 ?_
          refine lv_iload_n C.1 C.2.1 dX1_addClass_132 rfl (lv_at hl 2 rfl) ?_
          refine x_iast (ws2 := (wC g aC (aK 0) rr (sC.endCounts, sC.classOf, up sC.firstEnds sC.size v2, up sC.longest sC.size v4, up sC.shortest sC.size v3, sC.ends, sC.links, sC.wordSets, sC.stepSets, sC.letterSet, sC.size, sC.version) ++ (wS g aK sK ++ wT g aT sT)) ++ wR g rr sC.classOf) C Z 5 rfl (by decide) q83 dX1_addClass_133 rfl (fun H locs Z => ?_)
          refine lv_aload_n C.1 C.2.1 dX1_addClass_134 rfl (lv_at hl 0 rfl) ?_
          refine x_get C Z 0 rfl rfl i_X1_X1_addClass (k := 6) (by decide) (List.mem_of_getElem? (i := 6) rfl) rfl dX1_addClass_135 ?_
          refine lv_aload_n C.1 C.2.1 dX1_addClass_138 rfl (lv_at hl 0 rfl) ?_
          refine x_get C Z 0 rfl rfl i_X1_X1_addClass (k := 11) (by decide) (List.mem_of_getElem? (i := 1) rfl) rfl dX1_addClass_139 ?_
          refine lv_aload_n C.1 C.2.1 dX1_addClass_142 rfl (lv_at hl 0 rfl) ?_
          refine x_get C Z 0 rfl rfl i_X1_X1_addClass (k := 1) (by decide) (List.mem_of_getElem? (i := 7) rfl) rfl dX1_addClass_143 ?_
          refine lv_iload C.1 C.2.1 dX1_addClass_146 (lv_at hl 3 rfl) ?_
          have q85 := (ix_some h84).1
          have h86 := (ix_some h84).2
          clear h84
          refine x_iald C Z 1 rfl (by decide) q85 dX1_addClass_148 ?_
          refine x_iast (ws2 := (wC g aC (aK 0) rr (sC.endCounts, sC.classOf, up sC.firstEnds sC.size v2, up sC.longest sC.size v4, up sC.shortest sC.size v3, up sC.ends sC.size (sC.endCounts v4), sC.links, sC.wordSets, sC.stepSets, sC.letterSet, sC.size, sC.version) ++ (wS g aK sK ++ wT g aT sT)) ++ wR g rr sC.classOf) C Z 6 rfl (by decide) q83 dX1_addClass_149 rfl (fun H locs Z => ?_)
          refine lv_aload_n C.1 C.2.1 dX1_addClass_150 rfl (lv_at hl 0 rfl) ?_
          refine x_get C Z 0 rfl rfl i_X1_X1_addClass (k := 7) (by decide) (List.mem_of_getElem? (i := 8) rfl) rfl dX1_addClass_151 ?_
          refine lv_aload_n C.1 C.2.1 dX1_addClass_154 rfl (lv_at hl 0 rfl) ?_
          refine x_get C Z 0 rfl rfl i_X1_X1_addClass (k := 11) (by decide) (List.mem_of_getElem? (i := 1) rfl) rfl dX1_addClass_155 ?_
          refine lv_iload_n C.1 C.2.1 dX1_addClass_158 rfl (lv_at hl 2 rfl) ?_
          refine x_iconst C dX1_addClass_159 ?_
          have q87 := (ck_some h86).1
          have h88 := (ck_some h86).2
          clear h86
          refine x_icmp_le (tgt := 174) C dX1_addClass_160 (by decide) q87 (by decide) (fun c89 => ?_) (fun c89 => ?_)
          · have h90 := if_n h88 c89
            clear h88
            refine x_bipush C dX1_addClass_174 (by decide) ?_
            exact hJ176 (sC.endCounts, sC.classOf, up sC.firstEnds sC.size v2, up sC.longest sC.size v4, up sC.shortest sC.size v3, up sC.ends sC.size (sC.endCounts v4), sC.links, sC.wordSets, sC.stepSets, sC.letterSet, sC.size, sC.version) ex32.1 ex32.2 sC.size (-6) _ _ _ h90 Z (lv_sub hl [0, 4, 5] rfl)
          · have h91 := if_p h88 c89
            clear h88
            refine lv_aload_n C.1 C.2.1 dX1_addClass_163 rfl (lv_at hl 0 rfl) ?_
            refine lv_iload_n C.1 C.2.1 dX1_addClass_164 rfl (lv_at hl 1 rfl) ?_
            refine lv_iload_n C.1 C.2.1 dX1_addClass_165 rfl (lv_at hl 2 rfl) ?_
            refine x_iconst C dX1_addClass_166 ?_
            refine x_isub C dX1_addClass_167 ?_
            obtain ⟨r92, hr92, h93⟩ := bd_some h91
            clear h91
            refine x_callV_i_P (As := [.int (iI v2), .int (iI (v3 - 1))]) (rest := [.int (iI sC.size), .ref (aC 7)]) (q0 := 0) (X2 := (wC g aC (aK 0) rr (sC.endCounts, sC.classOf, up sC.firstEnds sC.size v2, up sC.longest sC.size v4, up sC.shortest sC.size v3, up sC.ends sC.size (sC.endCounts v4), sC.links, sC.wordSets, sC.stepSets, sC.letterSet, sC.size, sC.version) ++ (wS g aK sK ++ wT g aT sT))) C Z fr_CKT_0_1 (k_X1_classAt l g n aC aK rr (sC.endCounts, sC.classOf, up sC.firstEnds sC.size v2, up sC.longest sC.size v4, up sC.shortest sC.size v3, up sC.ends sC.size (sC.endCounts v4), sC.links, sC.wordSets, sC.stepSets, sC.letterSet, sC.size, sC.version) sK v2 (v3 - 1) r92 hr92) gX1_addClass_X1_classAt yk_X1_classAt ⟨Nat.le_of_ble_eq_true rfl, Nat.le_of_ble_eq_true rfl⟩ rfl rfl ⟨Nat.zero_le _, Nat.zero_le _⟩ hl.1 rfl (Nat.le_of_ble_eq_true rfl) rfl dX1_addClass_168 (fun H locs Z => ?_)
            refine lv_goto (tgt := 176) C.1 C.2.1 dX1_addClass_171 (by decide) ?_
            exact hJ176 (sC.endCounts, sC.classOf, up sC.firstEnds sC.size v2, up sC.longest sC.size v4, up sC.shortest sC.size v3, up sC.ends sC.size (sC.endCounts v4), sC.links, sC.wordSets, sC.stepSets, sC.letterSet, sC.size, sC.version) ex32.1 ex32.2 sC.size r92 _ _ _ h93 Z (lv_sub hl [0, 4, 5] rfl)
        have hL32 : ∀ (k32 : Nat) (z32 : Int × Int × Int) (H : Heap) (locs : List Loc) (ls : Array Slot), lp (p_X1_addClass_b32 n sK sT v4) k32 z32 = some ex32 → xSt g A s ((wC g aC (aK 0) rr sC ++ (wS g aK sK ++ wT g aT sT)) ++ wR g rr sC.classOf) H locs → lv_has ls 8 [(0, .ref (aC 0)), (1, .ref (aT 0)), (2, .int (iI v2)), (3, .int (iI v3)), (4, .int (iI v4)), (5, .int (iI z32.1)), (6, .int (iI z32.2.1)), (7, .int (iI z32.2.2))] → W p l e rmX1_addClass s m args below meth c H locs 0 0 QQ (F0 m 32 ls []) := by
          intro k32
          induction k32 with
          | zero => intro z32 H locs ls h; exact (lp_0 h).elim
          | succ k32 ih32 =>
            intro z32 H locs ls h Z hl
            obtain ⟨x32, hb32, hx32⟩ := lp_s h
            clear h
            unfold p_X1_addClass_b32 at hb32
            refine lv_iload C.1 C.2.1 dX1_addClass_32 (lv_at hl 7 rfl) ?_
            refine lv_aload_n C.1 C.2.1 dX1_addClass_34 rfl (lv_at hl 1 rfl) ?_
            obtain ⟨r51, hr51, h52⟩ := bd_some hb32
            clear hb32
            refine x_callV_i_Q (As := []) (rest := [.int (iI z32.2.2)]) (q0 := 0) (X2 := (wC g aC (aK 0) rr sC ++ (wS g aK sK ++ wT g aT sT))) C Z fr_CKT_2 (k_X5_length l g n aT sT r51 hr51) gX1_addClass_X5_length yk_X5_length ⟨Nat.le_of_ble_eq_true rfl, Nat.le_of_ble_eq_true rfl⟩ rfl rfl ⟨Nat.zero_le _, Nat.zero_le _⟩ hl.1 rfl (Nat.le_of_ble_eq_true rfl) rfl dX1_addClass_35 (fun H locs Z => ?_)
            have q53 := (ck_some h52).1
            have h54 := (ck_some h52).2
            clear h52
            have q55 := (ck_some h54).1
            have h56 := (ck_some h54).2
            clear h54
            refine x_icmp_ge (tgt := 103) C dX1_addClass_38 (by decide) q53 q55 (fun c57 => ?_) (fun c57 => ?_)
            · have h58 := if_n h56 c57
              clear h56
              cases h58
              have h60 := lp_R hx32
              subst h60
              exact hK32 _ _ _ Z (lv_sub hl [0, 2, 3, 4, 5, 6] rfl)
            · have h59 := if_p h56 c57
              clear h56
              refine lv_aload_n C.1 C.2.1 dX1_addClass_41 rfl (lv_at hl 0 rfl) ?_
              refine x_get C Z 0 rfl rfl i_X1_X1_addClass (k := 0) (by decide) (List.mem_of_getElem? (i := 2) rfl) rfl dX1_addClass_42 ?_
              refine lv_iload C.1 C.2.1 dX1_addClass_45 (lv_at hl 7 rfl) ?_
              obtain ⟨r61, hr61, h62⟩ := bd_some h59
              clear h59
              refine x_callV_i_Q (As := [.int (iI z32.2.2)]) (rest := []) (q0 := 0) (X2 := (wC g aC (aK 0) rr sC ++ (wS g aK sK ++ wT g aT sT))) C Z fr_CKT_1 (k_X4_lengthAt l g n aK sK z32.2.2 r61 hr61) gX1_addClass_X4_lengthAt yk_X4_lengthAt ⟨Nat.le_of_ble_eq_true rfl, Nat.le_of_ble_eq_true rfl⟩ rfl rfl ⟨Nat.zero_le _, Nat.zero_le _⟩ hl.1 rfl (Nat.le_of_ble_eq_true rfl) rfl dX1_addClass_47 (fun H locs Z => ?_)
              refine lv_iload C.1 C.2.1 dX1_addClass_50 (lv_at hl 4 rfl) ?_
              have q63 := (ck_some h62).1
              have h64 := (ck_some h62).2
              clear h62
              have q65 := (ck_some h64).1
              have h66 := (ck_some h64).2
              clear h64
              refine x_icmp_lt (tgt := 97) C dX1_addClass_52 (by decide) q63 q65 (fun c67 => ?_) (fun c67 => ?_)
              · have h68 := if_p h66 c67
                clear h66
                refine x_iinc (lv' := [(7, .int (iI (z32.2.2 + 1))), (0, .ref (aC 0)), (1, .ref (aT 0)), (2, .int (iI v2)), (3, .int (iI v3)), (4, .int (iI v4)), (5, .int (iI z32.1)), (6, .int (iI z32.2.1))]) C dX1_addClass_97 hl (k := 7) rfl (by decide) rfl (fun ls hl => ?_)
                refine lv_goto (tgt := 32) C.1 C.2.1 dX1_addClass_100 (by decide) ?_
                cases h68
                exact ih32 (z32.1, z32.2.1, z32.2.2 + 1) _ _ _ (lp_L2 hx32) Z (lv_sub hl [1, 2, 3, 4, 5, 6, 7, 0] rfl)
              · have h69 := if_n h66 c67
                clear h66
                refine lv_iload C.1 C.2.1 dX1_addClass_55 (lv_at hl 5 rfl) ?_
                refine x_iconst C dX1_addClass_57 ?_
                refine lv_aload_n C.1 C.2.1 dX1_addClass_58 rfl (lv_at hl 1 rfl) ?_
                refine lv_iload C.1 C.2.1 dX1_addClass_59 (lv_at hl 7 rfl) ?_
                obtain ⟨r70, hr70, h71⟩ := bd_some h69
                clear h69
                refine x_callV_i_Q (As := [.int (iI z32.2.2)]) (rest := [.int (iI 1), .int (iI z32.1)]) (q0 := 0) (X2 := (wC g aC (aK 0) rr sC ++ (wS g aK sK ++ wT g aT sT))) C Z fr_CKT_2 (k_X5_wordAt l g n aT sT z32.2.2 r70 hr70) gX1_addClass_X5_wordAt yk_X5_wordAt ⟨Nat.le_of_ble_eq_true rfl, Nat.le_of_ble_eq_true rfl⟩ rfl rfl ⟨Nat.zero_le _, Nat.zero_le _⟩ hl.1 rfl (Nat.le_of_ble_eq_true rfl) rfl dX1_addClass_61 (fun H locs Z => ?_)
                refine x_ishl C dX1_addClass_64 ?_
                refine x_ior C dX1_addClass_65 ?_
                refine lv_istore (lv' := [(5, .int (iI (bior z32.1 (bishl 1 r70)))), (0, .ref (aC 0)), (1, .ref (aT 0)), (2, .int (iI v2)), (3, .int (iI v3)), (4, .int (iI v4)), (6, .int (iI z32.2.1)), (7, .int (iI z32.2.2))]) C.1 C.2.1 dX1_addClass_66 hl (by decide) rfl (fun ls hl => ?_)
                refine lv_iload C.1 C.2.1 dX1_addClass_68 (lv_at hl 6 rfl) ?_
                refine lv_aload_n C.1 C.2.1 dX1_addClass_70 rfl (lv_at hl 2 rfl) ?_
                refine lv_iload C.1 C.2.1 dX1_addClass_71 (lv_at hl 7 rfl) ?_
                obtain ⟨r72, hr72, h73⟩ := bd_some h71
                clear h71
                refine x_callV_i_Q (As := [.int (iI z32.2.2)]) (rest := [.int (iI z32.2.1)]) (q0 := 0) (X2 := (wC g aC (aK 0) rr sC ++ (wS g aK sK ++ wT g aT sT))) C Z fr_CKT_2 (k_X5_lettersFrom l g n aT sT z32.2.2 r72 hr72) gX1_addClass_X5_lettersFrom yk_X5_lettersFrom ⟨Nat.le_of_ble_eq_true rfl, Nat.le_of_ble_eq_true rfl⟩ rfl rfl ⟨Nat.zero_le _, Nat.zero_le _⟩ hl.1 rfl (Nat.le_of_ble_eq_true rfl) rfl dX1_addClass_73 (fun H locs Z => ?_)
                refine x_iconst C dX1_addClass_76 ?_
                have q74 := (ck_some h73).1
                have h75 := (ck_some h73).2
                clear h73
                refine x_icmp_le (tgt := 93) C dX1_addClass_77 (by decide) q74 (by decide) (fun c76 => ?_) (fun c76 => ?_)
                · have h77 := if_n h75 c76
                  clear h75
                  refine x_iconst C dX1_addClass_93 ?_
                  refine x_ior C dX1_addClass_94 ?_
                  refine lv_istore (lv' := [(6, .int (iI (bior z32.2.1 0))), (5, .int (iI (bior z32.1 (bishl 1 r70)))), (0, .ref (aC 0)), (1, .ref (aT 0)), (2, .int (iI v2)), (3, .int (iI v3)), (4, .int (iI v4)), (7, .int (iI z32.2.2))]) C.1 C.2.1 dX1_addClass_95 hl (by decide) rfl (fun ls hl => ?_)
                  refine x_iinc (lv' := [(7, .int (iI (z32.2.2 + 1))), (6, .int (iI (bior z32.2.1 0))), (5, .int (iI (bior z32.1 (bishl 1 r70)))), (0, .ref (aC 0)), (1, .ref (aT 0)), (2, .int (iI v2)), (3, .int (iI v3)), (4, .int (iI v4))]) C dX1_addClass_97 hl (k := 7) rfl (by decide) rfl (fun ls hl => ?_)
                  refine lv_goto (tgt := 32) C.1 C.2.1 dX1_addClass_100 (by decide) ?_
                  cases h77
                  exact ih32 (bior z32.1 (bishl 1 r70), bior z32.2.1 0, z32.2.2 + 1) _ _ _ (lp_L2 hx32) Z (lv_sub hl [3, 4, 5, 6, 7, 2, 1, 0] rfl)
                · have h78 := if_p h75 c76
                  clear h75
                  refine x_iconst C dX1_addClass_80 ?_
                  refine lv_aload_n C.1 C.2.1 dX1_addClass_81 rfl (lv_at hl 2 rfl) ?_
                  refine lv_iload C.1 C.2.1 dX1_addClass_82 (lv_at hl 7 rfl) ?_
                  refine x_iconst C dX1_addClass_84 ?_
                  refine x_iadd C dX1_addClass_85 ?_
                  obtain ⟨r79, hr79, h80⟩ := bd_some h78
                  clear h78
                  refine x_callV_i_Q (As := [.int (iI (z32.2.2 + 1))]) (rest := [.int (iI 1), .int (iI z32.2.1)]) (q0 := 0) (X2 := (wC g aC (aK 0) rr sC ++ (wS g aK sK ++ wT g aT sT))) C Z fr_CKT_2 (k_X5_letterAt l g n aT sT (z32.2.2 + 1) r79 hr79) gX1_addClass_X5_letterAt yk_X5_letterAt ⟨Nat.le_of_ble_eq_true rfl, Nat.le_of_ble_eq_true rfl⟩ rfl rfl ⟨Nat.zero_le _, Nat.zero_le _⟩ hl.1 rfl (Nat.le_of_ble_eq_true rfl) rfl dX1_addClass_86 (fun H locs Z => ?_)
                  refine x_ishl C dX1_addClass_89 ?_
                  refine lv_goto (tgt := 94) C.1 C.2.1 dX1_addClass_90 (by decide) ?_
                  refine x_ior C dX1_addClass_94 ?_
                  refine lv_istore (lv' := [(6, .int (iI (bior z32.2.1 (bishl 1 r79)))), (5, .int (iI (bior z32.1 (bishl 1 r70)))), (0, .ref (aC 0)), (1, .ref (aT 0)), (2, .int (iI v2)), (3, .int (iI v3)), (4, .int (iI v4)), (7, .int (iI z32.2.2))]) C.1 C.2.1 dX1_addClass_95 hl (by decide) rfl (fun ls hl => ?_)
                  refine x_iinc (lv' := [(7, .int (iI (z32.2.2 + 1))), (6, .int (iI (bior z32.2.1 (bishl 1 r79)))), (5, .int (iI (bior z32.1 (bishl 1 r70)))), (0, .ref (aC 0)), (1, .ref (aT 0)), (2, .int (iI v2)), (3, .int (iI v3)), (4, .int (iI v4))]) C dX1_addClass_97 hl (k := 7) rfl (by decide) rfl (fun ls hl => ?_)
                  refine lv_goto (tgt := 32) C.1 C.2.1 dX1_addClass_100 (by decide) ?_
                  cases h80
                  exact ih32 (bior z32.1 (bishl 1 r70), bior z32.2.1 (bishl 1 r79), z32.2.2 + 1) _ _ _ (lp_L2 hx32) Z (lv_sub hl [3, 4, 5, 6, 7, 2, 1, 0] rfl)
        exact hL32 n (0, 0, 0) _ _ _ hl32 Z (lv_sub hl [3, 4, 5, 6, 7, 2, 1, 0] rfl)
      · have h20 := if_p h16 c18
        clear h16
        have h94 := Option.some.inj h20
        subst h94
        exact hRet _ _ _ _ Z dX1_addClass_22
abbrev rmX1_addFactorsAt : Room := { frames := 3, cells := 0, slots := 0, locals := 69 }
theorem yk_X1_addFactorsAt : xY yX1_addFactorsAt RX1 cX1_addFactorsAt 8 none wsX1_addFactorsAt rmX1_addFactorsAt 4 := ⟨⟨_, rfl⟩, by decide +kernel, rfl, rfl⟩
theorem i_X1_X1_addFactorsAt : ∀ w ∈ u_ws RX1 TX1 13, w ∈ wsX1_addFactorsAt := fun _ h => List.mem_cons_of_mem _ (List.mem_append_left _ (List.mem_append_left _ (List.mem_append_right _ h)))
theorem i_X4_X1_addFactorsAt : ∀ w ∈ u_ws RX4 TX4 1, w ∈ wsX1_addFactorsAt := fun _ h => List.mem_cons_of_mem _ (List.mem_append_right _ h)
theorem i_X5_X1_addFactorsAt : ∀ w ∈ u_ws RX5 TX5 8, w ∈ wsX1_addFactorsAt := fun _ h => List.mem_cons_of_mem _ (List.mem_append_left _ (List.mem_append_right _ h))
set_option maxHeartbeats 4000000 in
set_option maxRecDepth 100000 in
theorem k_X1_addFactorsAt (l : Launch) (g : xG) (n : Nat) (aC : Nat → Nat) (aK : Nat → Nat) (aT : Nat → Nat) (rr : Nat → Nat) (sC : ClsS) (sK : SwpS) (sT : TxtS) (v2 : Int) (v3 : Int) (v4 : Int) (r : ClsS) (hf : p_X1_addFactorsAt n sC sK sT v2 v3 v4 = some r) : xMv l yX1_addFactorsAt wsX1_addFactorsAt rmX1_addFactorsAt g [.ref (aC 0), .ref (aT 0), .int (iI v2), .int (iI v3), .int (iI v4)] ((wC g aC (aK 0) rr sC ++ (wS g aK sK ++ wT g aT sT)) ++ wR g rr sC.classOf) ((wC g aC (aK 0) rr r ++ (wS g aK sK ++ wT g aT sT)) ++ wR g rr r.classOf) := by
  refine x_ofW_v (own := RX1) (by decide) rfl rfl (Nat.le_of_ble_eq_true rfl) ?_
  intro p e s m args below meth c ls A QQ C hRet Z hl
  have hl : lv_has ls 8 [(0, .ref (aC 0)), (1, .ref (aT 0)), (2, .int (iI v2)), (3, .int (iI v3)), (4, .int (iI v4))] := hl
  unfold p_X1_addFactorsAt at hf
  refine lv_iload_n C.1 C.2.1 dX1_addFactorsAt_0 rfl (lv_at hl 3 rfl) ?_
  refine lv_istore (lv' := [(5, .int (iI v3)), (0, .ref (aC 0)), (1, .ref (aT 0)), (2, .int (iI v2)), (3, .int (iI v3)), (4, .int (iI v4))]) C.1 C.2.1 dX1_addFactorsAt_1 hl (by decide) rfl (fun ls hl => ?_)
  refine x_iconst C dX1_addFactorsAt_3 ?_
  refine lv_iload_n C.1 C.2.1 dX1_addFactorsAt_4 rfl (lv_at hl 4 rfl) ?_
  have q1 := (ck_some hf).1
  have h2 := (ck_some hf).2
  clear hf
  refine x_mmax (rest := []) C hl.1 (List.mem_of_getElem? (i := 1) rfl) (List.mem_of_getElem? (i := 2) rfl) (List.mem_of_getElem? (i := 3) rfl) (List.mem_of_getElem? (i := 4) rfl) (by decide) (by decide) (Nat.le_of_ble_eq_true rfl) ⟨Nat.zero_le _, Nat.zero_le _⟩ (by decide) q1 dX1_addFactorsAt_5 ?_
  refine lv_istore (lv' := [(6, .int (iI (max 0 v3))), (5, .int (iI v3)), (0, .ref (aC 0)), (1, .ref (aT 0)), (2, .int (iI v2)), (3, .int (iI v3)), (4, .int (iI v4))]) C.1 C.2.1 dX1_addFactorsAt_8 hl (by decide) rfl (fun ls hl => ?_)
  obtain ⟨ex10, hl10, h86⟩ := bd_some h2
  clear h2
  have hK10 : ∀ (H : Heap) (locs : List Loc) (ls : Array Slot), xSt g A s ((wC g aC (aK 0) rr ex10 ++ (wS g aK sK ++ wT g aT sT)) ++ wR g rr ex10.classOf) H locs → lv_has ls 8 [] → W p l e rmX1_addFactorsAt s m args below meth c H locs 0 0 QQ (F0 m 110 ls []) := by
    intro H locs ls Z hl
    have h87 := h86
    clear h86
    have h88 := Option.some.inj h87
    subst h88
    exact hRet _ _ _ _ Z dX1_addFactorsAt_110
  have hL10 : ∀ (k10 : Nat) (z10 : Int × Int × ClsS) (H : Heap) (locs : List Loc) (ls : Array Slot), lp (p_X1_addFactorsAt_b10 n sK sT v2 v4) k10 z10 = some ex10 → xSt g A s ((wC g aC (aK 0) rr z10.2.2 ++ (wS g aK sK ++ wT g aT sT)) ++ wR g rr z10.2.2.classOf) H locs → lv_has ls 8 [(0, .ref (aC 0)), (1, .ref (aT 0)), (2, .int (iI v2)), (4, .int (iI v4)), (5, .int (iI z10.1)), (6, .int (iI z10.2.1))] → W p l e rmX1_addFactorsAt s m args below meth c H locs 0 0 QQ (F0 m 10 ls []) := by
    intro k10
    induction k10 with
    | zero => intro z10 H locs ls h; exact (lp_0 h).elim
    | succ k10 ih10 =>
      intro z10 H locs ls h Z hl
      obtain ⟨x10, hb10, hx10⟩ := lp_s h
      clear h
      unfold p_X1_addFactorsAt_b10 at hb10
      have hJ88 : ∀ (sC_88 : ClsS) (v5_88 : Int) (v6_88 : Int) (H : Heap) (locs : List Loc) (ls : Array Slot), p_X1_addFactorsAt_j88 n sK sT v2 sC_88 v5_88 v6_88 = some x10 → xSt g A s ((wC g aC (aK 0) rr sC_88 ++ (wS g aK sK ++ wT g aT sT)) ++ wR g rr sC_88.classOf) H locs → lv_has ls 8 [(0, .ref (aC 0)), (1, .ref (aT 0)), (2, .int (iI v2)), (4, .int (iI v4)), (5, .int (iI v5_88)), (6, .int (iI v6_88))] → W p l e rmX1_addFactorsAt s m args below meth c H locs 0 0 QQ (F0 m 88 ls []) := by
        intro sC_88 v5_88 v6_88 H locs ls hj88 Z hl
        unfold p_X1_addFactorsAt_j88 at hj88
        refine lv_aload_n C.1 C.2.1 dX1_addFactorsAt_88 rfl (lv_at hl 0 rfl) ?_
        refine lv_aload_n C.1 C.2.1 dX1_addFactorsAt_89 rfl (lv_at hl 1 rfl) ?_
        refine lv_iload_n C.1 C.2.1 dX1_addFactorsAt_90 rfl (lv_at hl 2 rfl) ?_
        refine lv_iload C.1 C.2.1 dX1_addFactorsAt_91 (lv_at hl 4 rfl) ?_
        refine lv_iload C.1 C.2.1 dX1_addFactorsAt_93 (lv_at hl 5 rfl) ?_
        obtain ⟨r46, hr46, h47⟩ := bd_some hj88
        clear hj88
        refine x_callV_v_id (As := [.ref (aT 0), .int (iI v2), .int (iI v5_88), .int (iI v6_88)]) (rest := []) (q0 := 0) C Z (k_X1_addClass l g n aC aK aT rr sC_88 sK sT v2 v5_88 v6_88 r46 hr46) gX1_addFactorsAt_X1_addClass yk_X1_addClass ⟨Nat.le_of_ble_eq_true rfl, Nat.le_of_ble_eq_true rfl⟩ rfl rfl ⟨Nat.zero_le _, Nat.zero_le _⟩ hl.1 rfl (Nat.le_of_ble_eq_true rfl) rfl dX1_addFactorsAt_95 (fun H locs Z => ?_)
        refine lv_iload C.1 C.2.1 dX1_addFactorsAt_98 (lv_at hl 5 rfl) ?_
        refine x_iconst C dX1_addFactorsAt_100 ?_
        refine x_iadd C dX1_addFactorsAt_101 ?_
        refine lv_istore (lv' := [(5, .int (iI (v6_88 + 1))), (0, .ref (aC 0)), (1, .ref (aT 0)), (2, .int (iI v2)), (4, .int (iI v4)), (6, .int (iI v6_88))]) C.1 C.2.1 dX1_addFactorsAt_102 hl (by decide) rfl (fun ls hl => ?_)
        refine x_iinc (lv' := [(6, .int (iI (v6_88 + 1))), (5, .int (iI (v6_88 + 1))), (0, .ref (aC 0)), (1, .ref (aT 0)), (2, .int (iI v2)), (4, .int (iI v4))]) C dX1_addFactorsAt_104 hl (k := 5) rfl (by decide) rfl (fun ls hl => ?_)
        refine lv_goto (tgt := 10) C.1 C.2.1 dX1_addFactorsAt_107 (by decide) ?_
        cases h47
        exact ih10 (v6_88 + 1, v6_88 + 1, r46) _ _ _ (lp_L2 hx10) Z (lv_sub hl [2, 3, 4, 5, 1, 0] rfl)
      have hJ62 : ∀ (sC_62 : ClsS) (v5_62 : Int) (v6_62 : Int) (t0_62 : Int) (H : Heap) (locs : List Loc) (ls : Array Slot), p_X1_addFactorsAt_j62 n sK sT v2 sC_62 v5_62 v6_62 t0_62 = some x10 → xSt g A s ((wC g aC (aK 0) rr sC_62 ++ (wS g aK sK ++ wT g aT sT)) ++ wR g rr sC_62.classOf) H locs → lv_has ls 8 [(0, .ref (aC 0)), (1, .ref (aT 0)), (2, .int (iI v2)), (4, .int (iI v4)), (5, .int (iI v5_62)), (6, .int (iI v6_62))] → W p l e rmX1_addFactorsAt s m args below meth c H locs 0 0 QQ (F0 m 62 ls [.int (iI t0_62)]) := by
        intro sC_62 v5_62 v6_62 t0_62 H locs ls hj62 Z hl
        unfold p_X1_addFactorsAt_j62 at hj62
        refine lv_istore (lv' := [(7, .int (iI t0_62)), (0, .ref (aC 0)), (1, .ref (aT 0)), (2, .int (iI v2)), (4, .int (iI v4)), (5, .int (iI v5_62)), (6, .int (iI v6_62))]) C.1 C.2.1 dX1_addFactorsAt_62 hl (by decide) rfl (fun ls hl => ?_)
        refine lv_iload C.1 C.2.1 dX1_addFactorsAt_64 (lv_at hl 0 rfl) ?_
        have q48 := (ck_some hj62).1
        have h49 := (ck_some hj62).2
        clear hj62
        refine x_if_ne (tgt := 88) C dX1_addFactorsAt_66 (by decide) q48 (fun c50 => ?_) (fun c50 => ?_)
        · have h51 := if_n h49 c50
          clear h49
          exact hJ88 sC_62 v5_62 v6_62 _ _ _ h51 Z (lv_sub hl [1, 2, 3, 4, 5, 6] rfl)
        · have h52 := if_p h49 c50
          clear h49
          refine lv_aload_n C.1 C.2.1 dX1_addFactorsAt_69 rfl (lv_at hl 1 rfl) ?_
          refine x_get C Z 0 rfl rfl i_X1_X1_addFactorsAt (k := 1) (by decide) (List.mem_of_getElem? (i := 5) rfl) rfl dX1_addFactorsAt_70 ?_
          refine lv_iload C.1 C.2.1 dX1_addFactorsAt_73 (lv_at hl 6 rfl) ?_
          refine x_iconst C dX1_addFactorsAt_75 ?_
          refine x_iadd C dX1_addFactorsAt_76 ?_
          have q53 := (ix_some h52).1
          have h54 := (ix_some h52).2
          clear h52
          refine x_iald C Z 1 rfl (by decide) q53 dX1_addFactorsAt_77 ?_
          refine lv_aload_n C.1 C.2.1 dX1_addFactorsAt_78 rfl (lv_at hl 1 rfl) ?_
          refine x_get C Z 0 rfl rfl i_X1_X1_addFactorsAt (k := 1) (by decide) (List.mem_of_getElem? (i := 5) rfl) rfl dX1_addFactorsAt_79 ?_
          refine lv_iload C.1 C.2.1 dX1_addFactorsAt_82 (lv_at hl 6 rfl) ?_
          have q55 := (ix_some h54).1
          have h56 := (ix_some h54).2
          clear h54
          refine x_iald C Z 1 rfl (by decide) q55 dX1_addFactorsAt_84 ?_
          have q57 := (ck_some h56).1
          have h58 := (ck_some h56).2
          clear h56
          have q59 := (ck_some h58).1
          have h60 := (ck_some h58).2
          clear h58
          refine x_icmp_eq (tgt := 104) C dX1_addFactorsAt_85 (by decide) q57 q59 (fun c61 => ?_) (fun c61 => ?_)
          · have h62 := if_p h60 c61
            clear h60
            refine x_iinc (lv' := [(6, .int (iI (v6_62 + 1))), (7, .int (iI t0_62)), (0, .ref (aC 0)), (1, .ref (aT 0)), (2, .int (iI v2)), (4, .int (iI v4)), (5, .int (iI v5_62))]) C dX1_addFactorsAt_104 hl (k := 6) rfl (by decide) rfl (fun ls hl => ?_)
            refine lv_goto (tgt := 10) C.1 C.2.1 dX1_addFactorsAt_107 (by decide) ?_
            cases h62
            exact ih10 (v5_62, v6_62 + 1, sC_62) _ _ _ (lp_L2 hx10) Z (lv_sub hl [2, 3, 4, 5, 6, 0] rfl)
          · have h63 := if_n h60 c61
            clear h60
            exact hJ88 sC_62 v5_62 v6_62 _ _ _ h63 Z (lv_sub hl [1, 2, 3, 4, 5, 6] rfl)
      have hJ57 : ∀ (sC_57 : ClsS) (v5_57 : Int) (v6_57 : Int) (H : Heap) (locs : List Loc) (ls : Array Slot), p_X1_addFactorsAt_j57 n sK sT v2 sC_57 v5_57 v6_57 = some x10 → xSt g A s ((wC g aC (aK 0) rr sC_57 ++ (wS g aK sK ++ wT g aT sT)) ++ wR g rr sC_57.classOf) H locs → lv_has ls 8 [(0, .ref (aC 0)), (1, .ref (aT 0)), (2, .int (iI v2)), (4, .int (iI v4)), (5, .int (iI v5_57)), (6, .int (iI v6_57))] → W p l e rmX1_addFactorsAt s m args below meth c H locs 0 0 QQ (F0 m 57 ls []) := by
        intro sC_57 v5_57 v6_57 H locs ls hj57 Z hl
        unfold p_X1_addFactorsAt_j57 at hj57
        refine x_iconst C dX1_addFactorsAt_57 ?_
        refine lv_goto (tgt := 62) C.1 C.2.1 dX1_addFactorsAt_58 (by decide) ?_
        exact hJ62 sC_57 v5_57 v6_57 1 _ _ _ hj57 Z (lv_sub hl [0, 1, 2, 3, 4, 5] rfl)
      refine lv_iload C.1 C.2.1 dX1_addFactorsAt_10 (lv_at hl 5 rfl) ?_
      refine lv_iload C.1 C.2.1 dX1_addFactorsAt_12 (lv_at hl 3 rfl) ?_
      have q64 := (ck_some hb10).1
      have h65 := (ck_some hb10).2
      clear hb10
      have q66 := (ck_some h65).1
      have h67 := (ck_some h65).2
      clear h65
      refine x_icmp_gt (tgt := 110) C dX1_addFactorsAt_14 (by decide) q64 q66 (fun c68 => ?_) (fun c68 => ?_)
      · have h69 := if_p h67 c68
        clear h67
        cases h69
        have h71 := lp_R hx10
        subst h71
        exact hK10 _ _ _ Z (lv_sub hl [] rfl)
      · have h70 := if_n h67 c68
        clear h67
        refine lv_iload C.1 C.2.1 dX1_addFactorsAt_17 (lv_at hl 5 rfl) ?_
        refine lv_aload_n C.1 C.2.1 dX1_addFactorsAt_19 rfl (lv_at hl 0 rfl) ?_
        refine x_get C Z 0 rfl rfl i_X1_X1_addFactorsAt (k := 1) (by decide) (List.mem_of_getElem? (i := 5) rfl) rfl dX1_addFactorsAt_20 ?_
        refine x_alen C Z 1 rfl (v := 61) (by decide) dX1_addFactorsAt_23 ?_
        refine x_icmp_ge (tgt := 110) C dX1_addFactorsAt_24 (by decide) q64 (by decide) (fun c72 => ?_) (fun c72 => ?_)
        · have h73 := if_n h70 c72
          clear h70
          cases h73
          have h75 := lp_R hx10
          subst h75
          exact hK10 _ _ _ Z (lv_sub hl [] rfl)
        · have h74 := if_p h70 c72
          clear h70
          refine lv_aload_n C.1 C.2.1 dX1_addFactorsAt_27 rfl (lv_at hl 0 rfl) ?_
          refine lv_iload_n C.1 C.2.1 dX1_addFactorsAt_28 rfl (lv_at hl 2 rfl) ?_
          refine lv_iload C.1 C.2.1 dX1_addFactorsAt_29 (lv_at hl 5 rfl) ?_
          refine lv_aload_n C.1 C.2.1 dX1_addFactorsAt_31 rfl (lv_at hl 0 rfl) ?_
          refine x_get C Z 0 rfl rfl i_X1_X1_addFactorsAt (k := 11) (by decide) (List.mem_of_getElem? (i := 6) rfl) rfl dX1_addFactorsAt_32 ?_
          obtain ⟨r76, hr76, h77⟩ := bd_some h74
          clear h74
          refine x_callV_v_P (As := [.int (iI v2), .int (iI z10.2.1), .int (iI z10.2.2.size)]) (rest := []) (q0 := 0) (X2 := (wC g aC (aK 0) rr r76 ++ (wS g aK sK ++ wT g aT sT))) C Z fr_CKT_0_1 (k_X1_putClass l g n aC aK rr z10.2.2 sK v2 z10.2.1 z10.2.2.size r76 hr76) gX1_addFactorsAt_X1_putClass yk_X1_putClass ⟨Nat.le_of_ble_eq_true rfl, Nat.le_of_ble_eq_true rfl⟩ rfl rfl ⟨Nat.zero_le _, Nat.zero_le _⟩ hl.1 rfl (Nat.le_of_ble_eq_true rfl) rfl dX1_addFactorsAt_35 (fun H locs Z => ?_)
          refine lv_iload C.1 C.2.1 dX1_addFactorsAt_38 (lv_at hl 5 rfl) ?_
          refine lv_iload C.1 C.2.1 dX1_addFactorsAt_40 (lv_at hl 3 rfl) ?_
          refine x_icmp_eq (tgt := 57) C dX1_addFactorsAt_42 (by decide) q64 q66 (fun c78 => ?_) (fun c78 => ?_)
          · have h79 := if_p h77 c78
            clear h77
            exact hJ57 r76 z10.1 z10.2.1 _ _ _ h79 Z (lv_sub hl [0, 1, 2, 3, 4, 5] rfl)
          · have h80 := if_n h77 c78
            clear h77
            refine lv_iload C.1 C.2.1 dX1_addFactorsAt_45 (lv_at hl 5 rfl) ?_
            refine x_iconst C dX1_addFactorsAt_47 ?_
            refine x_iadd C dX1_addFactorsAt_48 ?_
            refine lv_aload_n C.1 C.2.1 dX1_addFactorsAt_49 rfl (lv_at hl 0 rfl) ?_
            refine x_get C Z 0 rfl rfl i_X1_X1_addFactorsAt (k := 1) (by decide) (List.mem_of_getElem? (i := 5) rfl) rfl dX1_addFactorsAt_50 ?_
            refine x_alen C Z 1 rfl (v := 61) (by decide) dX1_addFactorsAt_53 ?_
            have q81 := (ck_some h80).1
            have h82 := (ck_some h80).2
            clear h80
            refine x_icmp_ne (tgt := 61) C dX1_addFactorsAt_54 (by decide) q81 (by decide) (fun c83 => ?_) (fun c83 => ?_)
            · have h84 := if_n h82 c83
              clear h82
              refine x_iconst C dX1_addFactorsAt_61 ?_
              exact hJ62 r76 z10.1 z10.2.1 0 _ _ _ h84 Z (lv_sub hl [0, 1, 2, 3, 4, 5] rfl)
            · have h85 := if_p h82 c83
              clear h82
              exact hJ57 r76 z10.1 z10.2.1 _ _ _ h85 Z (lv_sub hl [0, 1, 2, 3, 4, 5] rfl)
  exact hL10 n (v3, max 0 v3, sC) _ _ _ hl10 Z (lv_sub hl [2, 3, 4, 6, 1, 0] rfl)
abbrev rmX1_refresh : Room := { frames := 4, cells := 0, slots := 0, locals := 96 }
theorem yk_X1_refresh : xY yX1_refresh RX1 cX1_refresh 4 none wsX1_refresh rmX1_refresh 1 := ⟨⟨_, rfl⟩, by decide +kernel, rfl, rfl⟩
theorem i_X1_X1_refresh : ∀ w ∈ u_ws RX1 TX1 13, w ∈ wsX1_refresh := fun _ h => List.mem_cons_of_mem _ (List.mem_append_left _ (List.mem_append_left _ (List.mem_append_right _ h)))
theorem i_X4_X1_refresh : ∀ w ∈ u_ws RX4 TX4 1, w ∈ wsX1_refresh := fun _ h => List.mem_cons_of_mem _ (List.mem_append_right _ h)
theorem i_X5_X1_refresh : ∀ w ∈ u_ws RX5 TX5 8, w ∈ wsX1_refresh := fun _ h => List.mem_cons_of_mem _ (List.mem_append_left _ (List.mem_append_right _ h))
set_option maxHeartbeats 4000000 in
set_option maxRecDepth 100000 in
theorem k_X1_refresh (l : Launch) (g : xG) (n : Nat) (aC : Nat → Nat) (aK : Nat → Nat) (aT : Nat → Nat) (rr : Nat → Nat) (sC : ClsS) (sK : SwpS) (sT : TxtS) (r : ClsS × SwpS) (hf : p_X1_refresh n sC sK sT = some r) : xMv l yX1_refresh wsX1_refresh rmX1_refresh g [.ref (aC 0), .ref (aT 0)] ((wC g aC (aK 0) rr sC ++ (wS g aK sK ++ wT g aT sT)) ++ wR g rr sC.classOf) ((wC g aC (aK 0) rr r.1 ++ (wS g aK r.2 ++ wT g aT sT)) ++ wR g rr r.1.classOf) := by
  refine x_ofW_v (own := RX1) (by decide) rfl rfl (Nat.le_of_ble_eq_true rfl) ?_
  intro p e s m args below meth c ls A QQ C hRet Z hl
  have hl : lv_has ls 4 [(0, .ref (aC 0)), (1, .ref (aT 0))] := hl
  unfold p_X1_refresh at hf
  refine lv_aload_n C.1 C.2.1 dX1_refresh_0 rfl (lv_at hl 0 rfl) ?_
  refine x_get C Z 0 rfl rfl i_X1_X1_refresh (k := 12) (by decide) (List.mem_of_getElem? (i := 1) rfl) rfl dX1_refresh_1 ?_
  refine lv_aload_n C.1 C.2.1 dX1_refresh_4 rfl (lv_at hl 1 rfl) ?_
  obtain ⟨r1, hr1, h2⟩ := bd_some hf
  clear hf
  refine x_callV_i_Q (As := []) (rest := [.int (iI sC.version)]) (q0 := 0) (X2 := (wC g aC (aK 0) rr sC ++ (wS g aK sK ++ wT g aT sT))) C Z fr_CKT_2 (k_X5_versionTaken l g n aT sT r1 hr1) gX1_refresh_X5_versionTaken yk_X5_versionTaken ⟨Nat.le_of_ble_eq_true rfl, Nat.le_of_ble_eq_true rfl⟩ rfl rfl ⟨Nat.zero_le _, Nat.zero_le _⟩ hl.1 rfl (Nat.le_of_ble_eq_true rfl) rfl dX1_refresh_5 (fun H locs Z => ?_)
  have q3 := (ck_some h2).1
  have h4 := (ck_some h2).2
  clear h2
  have q5 := (ck_some h4).1
  have h6 := (ck_some h4).2
  clear h4
  refine x_icmp_ne (tgt := 12) C dX1_refresh_8 (by decide) q3 q5 (fun c7 => ?_) (fun c7 => ?_)
  · have h8 := if_n h6 c7
    clear h6
    refine lv_aload_n C.1 C.2.1 dX1_refresh_12 rfl (lv_at hl 0 rfl) ?_
    refine lv_aload_n C.1 C.2.1 dX1_refresh_13 rfl (lv_at hl 1 rfl) ?_
    obtain ⟨r10, hr10, h11⟩ := bd_some h8
    clear h8
    refine x_callV_i_Q (As := []) (rest := [.ref (aC 0)]) (q0 := 0) (X2 := (wC g aC (aK 0) rr sC ++ (wS g aK sK ++ wT g aT sT))) C Z fr_CKT_2 (k_X5_versionTaken l g n aT sT r10 hr10) gX1_refresh_X5_versionTaken yk_X5_versionTaken ⟨Nat.le_of_ble_eq_true rfl, Nat.le_of_ble_eq_true rfl⟩ rfl rfl ⟨Nat.zero_le _, Nat.zero_le _⟩ hl.1 rfl (Nat.le_of_ble_eq_true rfl) rfl dX1_refresh_14 (fun H locs Z => ?_)
    refine x_put (ws2 := (wC g aC (aK 0) rr (sC.endCounts, sC.classOf, sC.firstEnds, sC.longest, sC.shortest, sC.ends, sC.links, sC.wordSets, sC.stepSets, sC.letterSet, sC.size, r10) ++ (wS g aK sK ++ wT g aT sT)) ++ wR g rr sC.classOf) C Z 0 rfl rfl i_X1_X1_refresh tyX1_ok nmX1 (k := 12) (by decide) (List.mem_of_getElem? (i := 1) rfl) rfl rfl (Nat.le_of_ble_eq_true rfl) dX1_refresh_17 rfl (fun H locs Z => ?_)
    refine lv_aload_n C.1 C.2.1 dX1_refresh_20 rfl (lv_at hl 0 rfl) ?_
    refine x_iconst C dX1_refresh_21 ?_
    refine x_put (ws2 := (wC g aC (aK 0) rr (sC.endCounts, sC.classOf, sC.firstEnds, sC.longest, sC.shortest, sC.ends, sC.links, sC.wordSets, sC.stepSets, sC.letterSet, 0, r10) ++ (wS g aK sK ++ wT g aT sT)) ++ wR g rr sC.classOf) C Z 0 rfl rfl i_X1_X1_refresh tyX1_ok nmX1 (k := 11) (by decide) (List.mem_of_getElem? (i := 2) rfl) rfl rfl (Nat.le_of_ble_eq_true rfl) dX1_refresh_22 rfl (fun H locs Z => ?_)
    refine lv_aload_n C.1 C.2.1 dX1_refresh_25 rfl (lv_at hl 0 rfl) ?_
    refine x_iconst C dX1_refresh_26 ?_
    refine x_put (ws2 := (wC g aC (aK 0) rr (sC.endCounts, sC.classOf, sC.firstEnds, sC.longest, sC.shortest, sC.ends, sC.links, sC.wordSets, sC.stepSets, 0, 0, r10) ++ (wS g aK sK ++ wT g aT sT)) ++ wR g rr sC.classOf) C Z 0 rfl rfl i_X1_X1_refresh tyX1_ok nmX1 (k := 10) (by decide) (List.mem_of_getElem? (i := 3) rfl) rfl rfl (Nat.le_of_ble_eq_true rfl) dX1_refresh_27 rfl (fun H locs Z => ?_)
    refine x_iconst C dX1_refresh_30 ?_
    refine lv_istore_n (lv' := [(2, .int (iI 0)), (0, .ref (aC 0)), (1, .ref (aT 0))]) C.1 C.2.1 dX1_refresh_31 rfl hl (by decide) rfl (fun ls hl => ?_)
    obtain ⟨ex32, hl32, h68⟩ := bd_some h11
    clear h11
    have hK32 : ∀ (H : Heap) (locs : List Loc) (ls : Array Slot), xSt g A s ((wC g aC (aK 0) rr ex32.1 ++ (wS g aK ex32.2 ++ wT g aT sT)) ++ wR g rr ex32.1.classOf) H locs → lv_has ls 4 [] → W p l e rmX1_refresh s m args below meth c H locs 0 0 QQ (F0 m 113 ls []) := by
      intro H locs ls Z hl
      have h69 := h68
      clear h68
      have h70 := Option.some.inj h69
      subst h70
      exact hRet _ _ _ _ Z dX1_refresh_113
    have hL32 : ∀ (k32 : Nat) (z32 : Int × ClsS × SwpS) (H : Heap) (locs : List Loc) (ls : Array Slot), lp (p_X1_refresh_b32 n sT) k32 z32 = some ex32 → xSt g A s ((wC g aC (aK 0) rr z32.2.1 ++ (wS g aK z32.2.2 ++ wT g aT sT)) ++ wR g rr z32.2.1.classOf) H locs → lv_has ls 4 [(0, .ref (aC 0)), (1, .ref (aT 0)), (2, .int (iI z32.1))] → W p l e rmX1_refresh s m args below meth c H locs 0 0 QQ (F0 m 32 ls []) := by
      intro k32
      induction k32 with
      | zero => intro z32 H locs ls h; exact (lp_0 h).elim
      | succ k32 ih32 =>
        intro z32 H locs ls h Z hl
        obtain ⟨x32, hb32, hx32⟩ := lp_s h
        clear h
        unfold p_X1_refresh_b32 at hb32
        refine lv_iload_n C.1 C.2.1 dX1_refresh_32 rfl (lv_at hl 2 rfl) ?_
        refine lv_aload_n C.1 C.2.1 dX1_refresh_33 rfl (lv_at hl 1 rfl) ?_
        obtain ⟨r40, hr40, h41⟩ := bd_some hb32
        clear hb32
        refine x_callV_i_Q (As := []) (rest := [.int (iI z32.1)]) (q0 := 0) (X2 := (wC g aC (aK 0) rr z32.2.1 ++ (wS g aK z32.2.2 ++ wT g aT sT))) C Z fr_CKT_2 (k_X5_length l g n aT sT r40 hr40) gX1_refresh_X5_length yk_X5_length ⟨Nat.le_of_ble_eq_true rfl, Nat.le_of_ble_eq_true rfl⟩ rfl rfl ⟨Nat.zero_le _, Nat.zero_le _⟩ hl.1 rfl (Nat.le_of_ble_eq_true rfl) rfl dX1_refresh_34 (fun H locs Z => ?_)
        have q42 := (ck_some h41).1
        have h43 := (ck_some h41).2
        clear h41
        have q44 := (ck_some h43).1
        have h45 := (ck_some h43).2
        clear h43
        refine x_icmp_ge (tgt := 113) C dX1_refresh_37 (by decide) q42 q44 (fun c46 => ?_) (fun c46 => ?_)
        · have h47 := if_n h45 c46
          clear h45
          cases h47
          have h49 := lp_R hx32
          subst h49
          exact hK32 _ _ _ Z (lv_sub hl [] rfl)
        · have h48 := if_p h45 c46
          clear h45
          refine lv_aload_n C.1 C.2.1 dX1_refresh_40 rfl (lv_at hl 0 rfl) ?_
          refine lv_dup C.1 C.2.1 dX1_refresh_41 rfl ?_
          refine x_get C Z 0 rfl rfl i_X1_X1_refresh (k := 10) (by decide) (List.mem_of_getElem? (i := 3) rfl) rfl dX1_refresh_42 ?_
          refine x_iconst C dX1_refresh_45 ?_
          refine lv_aload_n C.1 C.2.1 dX1_refresh_46 rfl (lv_at hl 1 rfl) ?_
          refine lv_iload_n C.1 C.2.1 dX1_refresh_47 rfl (lv_at hl 2 rfl) ?_
          obtain ⟨r50, hr50, h51⟩ := bd_some h48
          clear h48
          refine x_callV_i_Q (As := [.int (iI z32.1)]) (rest := [.int (iI 1), .int (iI z32.2.1.letterSet), .ref (aC 0)]) (q0 := 0) (X2 := (wC g aC (aK 0) rr z32.2.1 ++ (wS g aK z32.2.2 ++ wT g aT sT))) C Z fr_CKT_2 (k_X5_letterAt l g n aT sT z32.1 r50 hr50) gX1_refresh_X5_letterAt yk_X5_letterAt ⟨Nat.le_of_ble_eq_true rfl, Nat.le_of_ble_eq_true rfl⟩ rfl rfl ⟨Nat.zero_le _, Nat.zero_le _⟩ hl.1 rfl (Nat.le_of_ble_eq_true rfl) rfl dX1_refresh_48 (fun H locs Z => ?_)
          refine x_ishl C dX1_refresh_51 ?_
          refine x_ior C dX1_refresh_52 ?_
          refine x_put (ws2 := (wC g aC (aK 0) rr (z32.2.1.endCounts, z32.2.1.classOf, z32.2.1.firstEnds, z32.2.1.longest, z32.2.1.shortest, z32.2.1.ends, z32.2.1.links, z32.2.1.wordSets, z32.2.1.stepSets, bior z32.2.1.letterSet (bishl 1 r50), z32.2.1.size, z32.2.1.version) ++ (wS g aK z32.2.2 ++ wT g aT sT)) ++ wR g rr z32.2.1.classOf) C Z 0 rfl rfl i_X1_X1_refresh tyX1_ok nmX1 (k := 10) (by decide) (List.mem_of_getElem? (i := 3) rfl) rfl rfl (Nat.le_of_ble_eq_true rfl) dX1_refresh_53 rfl (fun H locs Z => ?_)
          refine lv_aload_n C.1 C.2.1 dX1_refresh_56 rfl (lv_at hl 0 rfl) ?_
          refine x_get C Z 0 rfl rfl i_X1_X1_refresh (k := 0) (by decide) (List.mem_of_getElem? (i := 4) rfl) rfl dX1_refresh_57 ?_
          refine lv_aload_n C.1 C.2.1 dX1_refresh_60 rfl (lv_at hl 1 rfl) ?_
          refine lv_iload_n C.1 C.2.1 dX1_refresh_61 rfl (lv_at hl 2 rfl) ?_
          refine lv_aload_n C.1 C.2.1 dX1_refresh_62 rfl (lv_at hl 1 rfl) ?_
          refine lv_aload_n C.1 C.2.1 dX1_refresh_63 rfl (lv_at hl 1 rfl) ?_
          obtain ⟨r52, hr52, h53⟩ := bd_some h51
          clear h51
          refine x_callV_i_Q (As := []) (rest := [.ref (aT 0), .int (iI z32.1), .ref (aT 0), .ref (aK 0)]) (q0 := 0) (X2 := (wC g aC (aK 0) rr (z32.2.1.endCounts, z32.2.1.classOf, z32.2.1.firstEnds, z32.2.1.longest, z32.2.1.shortest, z32.2.1.ends, z32.2.1.links, z32.2.1.wordSets, z32.2.1.stepSets, bior z32.2.1.letterSet (bishl 1 r50), z32.2.1.size, z32.2.1.version) ++ (wS g aK z32.2.2 ++ wT g aT sT))) C Z fr_CKT_2 (k_X5_length l g n aT sT r52 hr52) gX1_refresh_X5_length yk_X5_length ⟨Nat.le_of_ble_eq_true rfl, Nat.le_of_ble_eq_true rfl⟩ rfl rfl ⟨Nat.zero_le _, Nat.zero_le _⟩ hl.1 rfl (Nat.le_of_ble_eq_true rfl) rfl dX1_refresh_64 (fun H locs Z => ?_)
          obtain ⟨r54, hr54, h55⟩ := bd_some h53
          clear h53
          refine x_callV_i_Q (As := [.ref (aT 0), .int (iI z32.1), .ref (aT 0), .int (iI r52)]) (rest := []) (q0 := 0) (X2 := (wC g aC (aK 0) rr (z32.2.1.endCounts, z32.2.1.classOf, z32.2.1.firstEnds, z32.2.1.longest, z32.2.1.shortest, z32.2.1.ends, z32.2.1.links, z32.2.1.wordSets, z32.2.1.stepSets, bior z32.2.1.letterSet (bishl 1 r50), z32.2.1.size, z32.2.1.version) ++ (wS g aK r54.2 ++ wT g aT sT))) C Z fr_CKT_1_2 (k_X4_advancea l g n aK aT z32.2.2 sT z32.1 r52 r54 hr54) gX1_refresh_X4_advance yk_X4_advancea ⟨Nat.le_of_ble_eq_true rfl, Nat.le_of_ble_eq_true rfl⟩ rfl rfl ⟨Nat.zero_le _, Nat.zero_le _⟩ hl.1 rfl (Nat.le_of_ble_eq_true rfl) rfl dX1_refresh_67 (fun H locs Z => ?_)
          refine lv_pop C.1 C.2.1 dX1_refresh_70 rfl ?_
          refine lv_aload_n C.1 C.2.1 dX1_refresh_71 rfl (lv_at hl 1 rfl) ?_
          refine lv_iload_n C.1 C.2.1 dX1_refresh_72 rfl (lv_at hl 2 rfl) ?_
          obtain ⟨r56, hr56, h57⟩ := bd_some h55
          clear h55
          refine x_callV_i_Q (As := [.int (iI z32.1)]) (rest := []) (q0 := 0) (X2 := (wC g aC (aK 0) rr (z32.2.1.endCounts, z32.2.1.classOf, z32.2.1.firstEnds, z32.2.1.longest, z32.2.1.shortest, z32.2.1.ends, z32.2.1.links, z32.2.1.wordSets, z32.2.1.stepSets, bior z32.2.1.letterSet (bishl 1 r50), z32.2.1.size, z32.2.1.version) ++ (wS g aK r54.2 ++ wT g aT sT))) C Z fr_CKT_2 (k_X5_placeAt l g n aT sT z32.1 r56 hr56) gX1_refresh_X5_placeAt yk_X5_placeAt ⟨Nat.le_of_ble_eq_true rfl, Nat.le_of_ble_eq_true rfl⟩ rfl rfl ⟨Nat.zero_le _, Nat.zero_le _⟩ hl.1 rfl (Nat.le_of_ble_eq_true rfl) rfl dX1_refresh_73 (fun H locs Z => ?_)
          refine x_iconst C dX1_refresh_76 ?_
          refine x_iadd C dX1_refresh_77 ?_
          refine x_bipush C dX1_refresh_78 (by decide) ?_
          have q58 := (ck_some h57).1
          have h59 := (ck_some h57).2
          clear h57
          refine x_mmin (rest := []) C hl.1 (List.mem_of_getElem? (i := 5) rfl) (List.mem_of_getElem? (i := 6) rfl) (List.mem_of_getElem? (i := 7) rfl) (List.mem_of_getElem? (i := 8) rfl) (by decide) (by decide) (Nat.le_of_ble_eq_true rfl) ⟨Nat.zero_le _, Nat.zero_le _⟩ q58 (by decide) dX1_refresh_80 ?_
          refine lv_istore_n (lv' := [(3, .int (iI (min (r56 + 1) 60))), (0, .ref (aC 0)), (1, .ref (aT 0)), (2, .int (iI z32.1))]) C.1 C.2.1 dX1_refresh_83 rfl hl (by decide) rfl (fun ls hl => ?_)
          refine lv_aload_n C.1 C.2.1 dX1_refresh_84 rfl (lv_at hl 1 rfl) ?_
          refine lv_aload_n C.1 C.2.1 dX1_refresh_85 rfl (lv_at hl 2 rfl) ?_
          obtain ⟨r60, hr60, h61⟩ := bd_some h59
          clear h59
          refine x_callV_i_Q (As := []) (rest := [.ref (aC 0)]) (q0 := 0) (X2 := (wC g aC (aK 0) rr (z32.2.1.endCounts, z32.2.1.classOf, z32.2.1.firstEnds, z32.2.1.longest, z32.2.1.shortest, z32.2.1.ends, z32.2.1.links, z32.2.1.wordSets, z32.2.1.stepSets, bior z32.2.1.letterSet (bishl 1 r50), z32.2.1.size, z32.2.1.version) ++ (wS g aK r54.2 ++ wT g aT sT))) C Z fr_CKT_2 (k_X5_length l g n aT sT r60 hr60) gX1_refresh_X5_length yk_X5_length ⟨Nat.le_of_ble_eq_true rfl, Nat.le_of_ble_eq_true rfl⟩ rfl rfl ⟨Nat.zero_le _, Nat.zero_le _⟩ hl.1 rfl (Nat.le_of_ble_eq_true rfl) rfl dX1_refresh_86 (fun H locs Z => ?_)
          refine lv_iload_n C.1 C.2.1 dX1_refresh_89 rfl (lv_at hl 0 rfl) ?_
          obtain ⟨r62, hr62, h63⟩ := bd_some h61
          clear h61
          refine x_callV_v_P (As := [.int (iI r60), .int (iI (min (r56 + 1) 60))]) (rest := []) (q0 := 0) (X2 := (wC g aC (aK 0) rr r62 ++ (wS g aK r54.2 ++ wT g aT sT))) C Z fr_CKT_0_1 (k_X1_countEnds l g n aC aK rr (z32.2.1.endCounts, z32.2.1.classOf, z32.2.1.firstEnds, z32.2.1.longest, z32.2.1.shortest, z32.2.1.ends, z32.2.1.links, z32.2.1.wordSets, z32.2.1.stepSets, bior z32.2.1.letterSet (bishl 1 r50), z32.2.1.size, z32.2.1.version) r54.2 r60 (min (r56 + 1) 60) r62 hr62) gX1_refresh_X1_countEnds yk_X1_countEnds ⟨Nat.le_of_ble_eq_true rfl, Nat.le_of_ble_eq_true rfl⟩ rfl rfl ⟨Nat.zero_le _, Nat.zero_le _⟩ hl.1 rfl (Nat.le_of_ble_eq_true rfl) rfl dX1_refresh_90 (fun H locs Z => ?_)
          refine lv_aload_n C.1 C.2.1 dX1_refresh_93 rfl (lv_at hl 1 rfl) ?_
          refine lv_aload_n C.1 C.2.1 dX1_refresh_94 rfl (lv_at hl 2 rfl) ?_
          refine lv_iload_n C.1 C.2.1 dX1_refresh_95 rfl (lv_at hl 3 rfl) ?_
          refine lv_aload_n C.1 C.2.1 dX1_refresh_96 rfl (lv_at hl 1 rfl) ?_
          refine lv_iload_n C.1 C.2.1 dX1_refresh_97 rfl (lv_at hl 3 rfl) ?_
          obtain ⟨r64, hr64, h65⟩ := bd_some h63
          clear h63
          refine x_callV_i_P (As := [.int (iI z32.1)]) (rest := [.int (iI z32.1), .ref (aT 0), .ref (aC 0)]) (q0 := 0) (X2 := (wC g aC (aK 0) rr r64.2 ++ (wS g aK r54.2 ++ wT g aT sT))) C Z fr_CKT_0_1 (k_X1_takeKnown l g n aC aK rr r62 r54.2 z32.1 r64 hr64) gX1_refresh_X1_takeKnown yk_X1_takeKnown ⟨Nat.le_of_ble_eq_true rfl, Nat.le_of_ble_eq_true rfl⟩ rfl rfl ⟨Nat.zero_le _, Nat.zero_le _⟩ hl.1 rfl (Nat.le_of_ble_eq_true rfl) rfl dX1_refresh_98 (fun H locs Z => ?_)
          refine x_iconst C dX1_refresh_101 ?_
          refine x_iadd C dX1_refresh_102 ?_
          refine lv_iload_n C.1 C.2.1 dX1_refresh_103 rfl (lv_at hl 0 rfl) ?_
          obtain ⟨r66, hr66, h67⟩ := bd_some h65
          clear h65
          refine x_callV_v_id (As := [.ref (aT 0), .int (iI z32.1), .int (iI (r64.1 + 1)), .int (iI (min (r56 + 1) 60))]) (rest := []) (q0 := 0) C Z (k_X1_addFactorsAt l g n aC aK aT rr r64.2 r54.2 sT z32.1 (r64.1 + 1) (min (r56 + 1) 60) r66 hr66) gX1_refresh_X1_addFactorsAt yk_X1_addFactorsAt ⟨Nat.le_of_ble_eq_true rfl, Nat.le_of_ble_eq_true rfl⟩ rfl rfl ⟨Nat.zero_le _, Nat.zero_le _⟩ hl.1 rfl (Nat.le_of_ble_eq_true rfl) rfl dX1_refresh_104 (fun H locs Z => ?_)
          refine x_iinc (lv' := [(2, .int (iI (z32.1 + 1))), (3, .int (iI (min (r56 + 1) 60))), (0, .ref (aC 0)), (1, .ref (aT 0))]) C dX1_refresh_107 hl (k := 3) rfl (by decide) rfl (fun ls hl => ?_)
          refine lv_goto (tgt := 32) C.1 C.2.1 dX1_refresh_110 (by decide) ?_
          cases h67
          exact ih32 (z32.1 + 1, r66, r54.2) _ _ _ (lp_L2 hx32) Z (lv_sub hl [2, 3, 0] rfl)
    exact hL32 n (0, (sC.endCounts, sC.classOf, sC.firstEnds, sC.longest, sC.shortest, sC.ends, sC.links, sC.wordSets, sC.stepSets, 0, 0, r10), sK) _ _ _ hl32 Z (lv_sub hl [1, 2, 0] rfl)
  · have h9 := if_p h6 c7
    clear h6
    have h71 := Option.some.inj h9
    subst h71
    exact hRet _ _ _ _ Z dX1_refresh_11
