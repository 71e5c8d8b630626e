abbrev rmX6_classOfPattern : Room := { frames := 5, cells := 0, slots := 0, locals := 119 }
theorem yk_X6_classOfPattern : xY yX6_classOfPattern RX6 cX6_classOfPattern 2 (some .int) wsX6_classOfPattern rmX6_classOfPattern 0 := ⟨⟨_, rfl⟩, by decide +kernel, rfl, rfl⟩
theorem i_X1_X6_classOfPattern : ∀ w ∈ u_ws RX1 TX1 13, w ∈ wsX6_classOfPattern := fun _ h => List.mem_cons_of_mem _ (List.mem_append_left _ (List.mem_append_right _ h))
theorem i_X4_X6_classOfPattern : ∀ w ∈ u_ws RX4 TX4 1, w ∈ wsX6_classOfPattern := fun _ h => List.mem_cons_of_mem _ (List.mem_append_right _ h)
theorem i_X5_X6_classOfPattern : ∀ w ∈ u_ws RX5 TX5 8, w ∈ wsX6_classOfPattern := fun _ h => List.mem_cons_of_mem _ (List.mem_append_left _ (List.mem_append_left _ (List.mem_append_right _ h)))
theorem i_X6_X6_classOfPattern : ∀ w ∈ u_ws RX6 TX6 11, w ∈ wsX6_classOfPattern := fun _ h => List.mem_cons_of_mem _ (List.mem_append_left _ (List.mem_append_left _ (List.mem_append_left _ (List.mem_append_right _ h))))
set_option maxHeartbeats 4000000 in
set_option maxRecDepth 100000 in
theorem k_X6_classOfPattern (l : Launch) (g : xG) (n : Nat) (aF : Nat → Nat) (aH : Nat → Nat) (aP : Nat → Nat) (aT : Nat → Nat) (aC : Nat → Nat) (aK : Nat → Nat) (aB : Nat → Nat) (aQ : Nat → Nat) (aU : Nat → Nat) (aV : Nat → Nat) (aS : Nat → Nat) (aR : Nat → Nat) (rr : Nat → Nat) (sF : Int) (sH : HisS) (sP : PadS) (sT : TxtS) (sC : ClsS) (sK : SwpS) (sB : BegS) (sQ : TxtS) (sU : TxtS) (sV : TxtS) (sS : SwpS) (sR : SwpS) (r : Int × ClsS × SwpS) (hf : p_X6_classOfPattern n sT sC sK sQ = some r) : xMi l yX6_classOfPattern wsX6_classOfPattern rmX6_classOfPattern g [.ref (aF 0)] ((wF g aF (aH 0) (aP 0) (aT 0) (aC 0) (aB 0) (aQ 0) (aU 0) (aV 0) (aS 0) (aR 0) sF ++ (wH g aH sH ++ (wP g aP sP ++ (wT g aT sT ++ (wC g aC (aK 0) rr sC ++ (wS g aK sK ++ (wB g aB sB ++ (wT g aQ sQ ++ (wT g aU sU ++ (wT g aV sV ++ (wS g aS sS ++ wS g aR sR))))))))))) ++ wR g rr sC.classOf) ((wF g aF (aH 0) (aP 0) (aT 0) (aC 0) (aB 0) (aQ 0) (aU 0) (aV 0) (aS 0) (aR 0) sF ++ (wH g aH sH ++ (wP g aP sP ++ (wT g aT sT ++ (wC g aC (aK 0) rr r.2.1 ++ (wS g aK r.2.2 ++ (wB g aB sB ++ (wT g aQ sQ ++ (wT g aU sU ++ (wT g aV sV ++ (wS g aS sS ++ wS g aR sR))))))))))) ++ wR g rr r.2.1.classOf) r.1 := by
  refine x_ofW_i (own := RX6) (by decide) rfl rfl (Nat.le_of_ble_eq_true rfl) ?_
  intro p e s m args below meth c ls A QQ C hRet Z hl
  have hl : lv_has ls 2 [(0, .ref (aF 0))] := hl
  unfold p_X6_classOfPattern at hf
  refine lv_aload_n C.1 C.2.1 dX6_classOfPattern_0 rfl (lv_at hl 0 rfl) ?_
  refine x_get C Z 0 rfl rfl i_X6_X6_classOfPattern (k := 2) (by decide) (List.mem_of_getElem? (i := 1) rfl) rfl dX6_classOfPattern_1 ?_
  refine lv_aload_n C.1 C.2.1 dX6_classOfPattern_4 rfl (lv_at hl 0 rfl) ?_
  refine x_get C Z 0 rfl rfl i_X6_X6_classOfPattern (k := 5) (by decide) (List.mem_of_getElem? (i := 2) rfl) rfl dX6_classOfPattern_5 ?_
  refine x_iconst C dX6_classOfPattern_8 ?_
  obtain ⟨r1, hr1, h2⟩ := bd_some hf
  clear hf
  refine x_callV_i_Q (As := [.ref (aQ 0), .int (iI 0)]) (rest := []) (q0 := 0) (X2 := (wF g aF (aH 0) (aP 0) (aT 0) (aC 0) (aB 0) (aQ 0) (aU 0) (aV 0) (aS 0) (aR 0) sF ++ (wH g aH sH ++ (wP g aP sP ++ (wT g aT sT ++ (wC g aC (aK 0) rr sC ++ (wS g aK sK ++ (wB g aB sB ++ (wT g aQ sQ ++ (wT g aU sU ++ (wT g aV sV ++ (wS g aS sS ++ wS g aR sR)))))))))))) C Z fr_FHPTCKBQUVSR_3_7 (k_X5_endNumber l g n aT aQ sT sQ 0 r1 hr1) gX6_classOfPattern_X5_endNumber yk_X5_endNumber ⟨Nat.le_of_ble_eq_true rfl, Nat.le_of_ble_eq_true rfl⟩ rfl rfl ⟨Nat.zero_le _, Nat.zero_le _⟩ hl.1 rfl (Nat.le_of_ble_eq_true rfl) rfl dX6_classOfPattern_9 (fun H locs Z => ?_)
  refine lv_istore_n (lv' := [(1, .int (iI r1)), (0, .ref (aF 0))]) C.1 C.2.1 dX6_classOfPattern_12 rfl hl (by decide) rfl (fun ls hl => ?_)
  refine lv_iload_n C.1 C.2.1 dX6_classOfPattern_13 rfl (lv_at hl 0 rfl) ?_
  refine x_bipush C dX6_classOfPattern_14 (by decide) ?_
  have q3 := (ck_some h2).1
  have h4 := (ck_some h2).2
  clear h2
  refine x_icmp_ne (tgt := 22) C dX6_classOfPattern_16 (by decide) q3 (by decide) (fun c5 => ?_) (fun c5 => ?_)
  · have h6 := if_n h4 c5
    clear h4
    refine lv_aload_n C.1 C.2.1 dX6_classOfPattern_22 rfl (lv_at hl 1 rfl) ?_
    refine x_get C Z 0 rfl rfl i_X6_X6_classOfPattern (k := 3) (by decide) (List.mem_of_getElem? (i := 3) rfl) rfl dX6_classOfPattern_23 ?_
    refine lv_aload_n C.1 C.2.1 dX6_classOfPattern_26 rfl (lv_at hl 1 rfl) ?_
    refine x_get C Z 0 rfl rfl i_X6_X6_classOfPattern (k := 2) (by decide) (List.mem_of_getElem? (i := 1) rfl) rfl dX6_classOfPattern_27 ?_
    obtain ⟨r8, hr8, h9⟩ := bd_some h6
    clear h6
    refine x_callV_v_P (As := [.ref (aT 0)]) (rest := []) (q0 := 0) (X2 := (wF g aF (aH 0) (aP 0) (aT 0) (aC 0) (aB 0) (aQ 0) (aU 0) (aV 0) (aS 0) (aR 0) sF ++ (wH g aH sH ++ (wP g aP sP ++ (wT g aT sT ++ (wC g aC (aK 0) rr r8.1 ++ (wS g aK r8.2 ++ (wB g aB sB ++ (wT g aQ sQ ++ (wT g aU sU ++ (wT g aV sV ++ (wS g aS sS ++ wS g aR sR)))))))))))) C Z fr_FHPTCKBQUVSR_4_5_3 (k_X1_refresh l g n aC aK aT rr sC sK sT r8 hr8) gX6_classOfPattern_X1_refresh yk_X1_refresh ⟨Nat.le_of_ble_eq_true rfl, Nat.le_of_ble_eq_true rfl⟩ rfl rfl ⟨Nat.zero_le _, Nat.zero_le _⟩ hl.1 rfl (Nat.le_of_ble_eq_true rfl) rfl dX6_classOfPattern_30 (fun H locs Z => ?_)
    refine lv_aload_n C.1 C.2.1 dX6_classOfPattern_33 rfl (lv_at hl 1 rfl) ?_
    refine x_get C Z 0 rfl rfl i_X6_X6_classOfPattern (k := 3) (by decide) (List.mem_of_getElem? (i := 3) rfl) rfl dX6_classOfPattern_34 ?_
    refine lv_iload_n C.1 C.2.1 dX6_classOfPattern_37 rfl (lv_at hl 0 rfl) ?_
    refine lv_aload_n C.1 C.2.1 dX6_classOfPattern_38 rfl (lv_at hl 1 rfl) ?_
    refine x_get C Z 0 rfl rfl i_X6_X6_classOfPattern (k := 5) (by decide) (List.mem_of_getElem? (i := 2) rfl) rfl dX6_classOfPattern_39 ?_
    obtain ⟨r10, hr10, h11⟩ := bd_some h9
    clear h9
    refine x_callV_i_Q (As := []) (rest := [.int (iI r1), .ref (aC 0)]) (q0 := 0) (X2 := (wF g aF (aH 0) (aP 0) (aT 0) (aC 0) (aB 0) (aQ 0) (aU 0) (aV 0) (aS 0) (aR 0) sF ++ (wH g aH sH ++ (wP g aP sP ++ (wT g aT sT ++ (wC g aC (aK 0) rr r8.1 ++ (wS g aK r8.2 ++ (wB g aB sB ++ (wT g aQ sQ ++ (wT g aU sU ++ (wT g aV sV ++ (wS g aS sS ++ wS g aR sR)))))))))))) C Z fr_FHPTCKBQUVSR_7 (k_X5_length l g n aQ sQ r10 hr10) gX6_classOfPattern_X5_length yk_X5_length ⟨Nat.le_of_ble_eq_true rfl, Nat.le_of_ble_eq_true rfl⟩ rfl rfl ⟨Nat.zero_le _, Nat.zero_le _⟩ hl.1 rfl (Nat.le_of_ble_eq_true rfl) rfl dX6_classOfPattern_42 (fun H locs Z => ?_)
    obtain ⟨r12, hr12, h13⟩ := bd_some h11
    clear h11
    refine x_callV_i_P (As := [.int (iI r1), .int (iI r10)]) (rest := []) (q0 := 0) (X2 := (wF g aF (aH 0) (aP 0) (aT 0) (aC 0) (aB 0) (aQ 0) (aU 0) (aV 0) (aS 0) (aR 0) sF ++ (wH g aH sH ++ (wP g aP sP ++ (wT g aT sT ++ (wC g aC (aK 0) rr r8.1 ++ (wS g aK r8.2 ++ (wB g aB sB ++ (wT g aQ sQ ++ (wT g aU sU ++ (wT g aV sV ++ (wS g aS sS ++ wS g aR sR)))))))))))) C Z fr_FHPTCKBQUVSR_4_5 (k_X1_classAt l g n aC aK rr r8.1 r8.2 r1 r10 r12 hr12) gX6_classOfPattern_X1_classAt yk_X1_classAt ⟨Nat.le_of_ble_eq_true rfl, Nat.le_of_ble_eq_true rfl⟩ rfl rfl ⟨Nat.zero_le _, Nat.zero_le _⟩ hl.1 rfl (Nat.le_of_ble_eq_true rfl) rfl dX6_classOfPattern_45 (fun H locs Z => ?_)
    have h14 := Option.some.inj h13
    subst h14
    exact hRet _ _ _ _ Z dX6_classOfPattern_48
  · have h7 := if_p h4 c5
    clear h4
    refine x_bipush C dX6_classOfPattern_19 (by decide) ?_
    have h15 := Option.some.inj h7
    subst h15
    exact hRet _ _ _ _ Z dX6_classOfPattern_21
abbrev rmX5_wordsWith : Room := { frames := 3, cells := 0, slots := 0, locals := 66 }
theorem yk_X5_wordsWith : xY yX5_wordsWith RX5 cX5_wordsWith 4 (some .int) wsX5_wordsWith rmX5_wordsWith 1 := ⟨⟨_, rfl⟩, by decide +kernel, rfl, rfl⟩
theorem i_X5_X5_wordsWith : ∀ w ∈ u_ws RX5 TX5 8, w ∈ wsX5_wordsWith := fun _ h => List.mem_cons_of_mem _ (List.mem_append_right _ h)
set_option maxHeartbeats 4000000 in
set_option maxRecDepth 100000 in
theorem k_X5_wordsWith (l : Launch) (g : xG) (n : Nat) (aT : Nat → Nat) (aU : Nat → Nat) (sT : TxtS) (sU : TxtS) (r : Int) (hf : p_X5_wordsWith n sT sU = some r) : xMi l yX5_wordsWith wsX5_wordsWith rmX5_wordsWith g [.ref (aT 0), .ref (aU 0)] (wT g aT sT ++ wT g aU sU) (wT g aT sT ++ wT g aU sU) r := by
  refine x_ofW_i (own := RX5) (by decide) rfl rfl (Nat.le_of_ble_eq_true rfl) ?_
  intro p e s m args below meth c ls A QQ C hRet Z hl
  have hl : lv_has ls 4 [(0, .ref (aT 0)), (1, .ref (aU 0))] := hl
  unfold p_X5_wordsWith at hf
  refine x_iconst C dX5_wordsWith_0 ?_
  refine lv_istore_n (lv' := [(2, .int (iI 0)), (0, .ref (aT 0)), (1, .ref (aU 0))]) C.1 C.2.1 dX5_wordsWith_1 rfl hl (by decide) rfl (fun ls hl => ?_)
  refine x_iconst C dX5_wordsWith_2 ?_
  refine lv_istore_n (lv' := [(3, .int (iI 0)), (2, .int (iI 0)), (0, .ref (aT 0)), (1, .ref (aU 0))]) C.1 C.2.1 dX5_wordsWith_3 rfl hl (by decide) rfl (fun ls hl => ?_)
  obtain ⟨ex4, hl4, h35⟩ := bd_some hf
  clear hf
  have hK4 : ∀ (H : Heap) (locs : List Loc) (ls : Array Slot), xSt g A s (wT g aT sT ++ wT g aU sU) H locs → lv_has ls 4 [(2, .int (iI ex4))] → W p l e rmX5_wordsWith s m args below meth c H locs 0 0 QQ (F0 m 38 ls []) := by
    intro H locs ls Z hl
    have h36 := h35
    clear h35
    refine lv_iload_n C.1 C.2.1 dX5_wordsWith_38 rfl (lv_at hl 0 rfl) ?_
    have h37 := Option.some.inj h36
    subst h37
    exact hRet _ _ _ _ Z dX5_wordsWith_39
  have hL4 : ∀ (k4 : Nat) (z4 : Int × Int) (H : Heap) (locs : List Loc) (ls : Array Slot), lp (p_X5_wordsWith_b4 n sT sU) k4 z4 = some ex4 → xSt g A s (wT g aT sT ++ wT g aU sU) H locs → lv_has ls 4 [(0, .ref (aT 0)), (1, .ref (aU 0)), (2, .int (iI z4.1)), (3, .int (iI z4.2))] → W p l e rmX5_wordsWith s m args below meth c H locs 0 0 QQ (F0 m 4 ls []) := by
    intro k4
    induction k4 with
    | zero => intro z4 H locs ls h; exact (lp_0 h).elim
    | succ k4 ih4 =>
      intro z4 H locs ls h Z hl
      obtain ⟨x4, hb4, hx4⟩ := lp_s h
      clear h
      unfold p_X5_wordsWith_b4 at hb4
      refine lv_iload_n C.1 C.2.1 dX5_wordsWith_4 rfl (lv_at hl 3 rfl) ?_
      refine lv_aload_n C.1 C.2.1 dX5_wordsWith_5 rfl (lv_at hl 0 rfl) ?_
      refine x_get C Z 0 rfl rfl i_X5_X5_wordsWith (k := 6) (by decide) (List.mem_of_getElem? (i := 1) rfl) rfl dX5_wordsWith_6 ?_
      have q18 := (ck_some hb4).1
      have h19 := (ck_some hb4).2
      clear hb4
      have q20 := (ck_some h19).1
      have h21 := (ck_some h19).2
      clear h19
      refine x_icmp_ge (tgt := 38) C dX5_wordsWith_9 (by decide) q18 q20 (fun c22 => ?_) (fun c22 => ?_)
      · have h23 := if_n h21 c22
        clear h21
        cases h23
        have h25 := lp_R hx4
        subst h25
        exact hK4 _ _ _ Z (lv_sub hl [2] rfl)
      · have h24 := if_p h21 c22
        clear h21
        refine lv_aload_n C.1 C.2.1 dX5_wordsWith_12 rfl (lv_at hl 0 rfl) ?_
        refine lv_aload_n C.1 C.2.1 dX5_wordsWith_13 rfl (lv_at hl 1 rfl) ?_
        refine lv_iload_n C.1 C.2.1 dX5_wordsWith_14 rfl (lv_at hl 3 rfl) ?_
        obtain ⟨r26, hr26, h27⟩ := bd_some h24
        clear h24
        refine x_callV_i_id (As := [.ref (aU 0), .int (iI z4.2)]) (rest := []) (q0 := 0) C Z (k_X5_hasEnd l g n aT aU sT sU z4.2 r26 hr26) gX5_wordsWith_X5_hasEnd yk_X5_hasEnd ⟨Nat.le_of_ble_eq_true rfl, Nat.le_of_ble_eq_true rfl⟩ rfl rfl ⟨Nat.zero_le _, Nat.zero_le _⟩ hl.1 rfl (Nat.le_of_ble_eq_true rfl) rfl dX5_wordsWith_15 (fun H locs Z => ?_)
        have q28 := (ck_some h27).1
        have h29 := (ck_some h27).2
        clear h27
        refine x_if_eq (tgt := 32) C dX5_wordsWith_18 (by decide) q28 (fun c30 => ?_) (fun c30 => ?_)
        · have h31 := if_p h29 c30
          clear h29
          refine x_iinc (lv' := [(3, .int (iI (z4.2 + 1))), (0, .ref (aT 0)), (1, .ref (aU 0)), (2, .int (iI z4.1))]) C dX5_wordsWith_32 hl (k := 3) rfl (by decide) rfl (fun ls hl => ?_)
          refine lv_goto (tgt := 4) C.1 C.2.1 dX5_wordsWith_35 (by decide) ?_
          cases h31
          exact ih4 (z4.1, z4.2 + 1) _ _ _ (lp_L2 hx4) Z (lv_sub hl [1, 2, 3, 0] rfl)
        · have h32 := if_n h29 c30
          clear h29
          refine lv_iload_n C.1 C.2.1 dX5_wordsWith_21 rfl (lv_at hl 2 rfl) ?_
          refine x_iconst C dX5_wordsWith_22 ?_
          refine lv_aload_n C.1 C.2.1 dX5_wordsWith_23 rfl (lv_at hl 0 rfl) ?_
          refine x_get C Z 0 rfl rfl i_X5_X5_wordsWith (k := 1) (by decide) (List.mem_of_getElem? (i := 2) rfl) rfl dX5_wordsWith_24 ?_
          refine lv_iload_n C.1 C.2.1 dX5_wordsWith_27 rfl (lv_at hl 3 rfl) ?_
          have q33 := (ix_some h32).1
          have h34 := (ix_some h32).2
          clear h32
          refine x_iald C Z 2 rfl (by decide) q33 dX5_wordsWith_28 ?_
          refine x_ishl C dX5_wordsWith_29 ?_
          refine x_ior C dX5_wordsWith_30 ?_
          refine lv_istore_n (lv' := [(2, .int (iI (bior z4.1 (bishl 1 (sT.words z4.2))))), (0, .ref (aT 0)), (1, .ref (aU 0)), (3, .int (iI z4.2))]) C.1 C.2.1 dX5_wordsWith_31 rfl hl (by decide) rfl (fun ls hl => ?_)
          refine x_iinc (lv' := [(3, .int (iI (z4.2 + 1))), (2, .int (iI (bior z4.1 (bishl 1 (sT.words z4.2))))), (0, .ref (aT 0)), (1, .ref (aU 0))]) C dX5_wordsWith_32 hl (k := 3) rfl (by decide) rfl (fun ls hl => ?_)
          refine lv_goto (tgt := 4) C.1 C.2.1 dX5_wordsWith_35 (by decide) ?_
          cases h34
          exact ih4 (bior z4.1 (bishl 1 (sT.words z4.2)), z4.2 + 1) _ _ _ (lp_L2 hx4) Z (lv_sub hl [2, 3, 1, 0] rfl)
  exact hL4 n (0, 0) _ _ _ hl4 Z (lv_sub hl [2, 3, 1, 0] rfl)
abbrev rmX5_endsOf : Room := { frames := 3, cells := 0, slots := 0, locals := 66 }
theorem yk_X5_endsOf : xY yX5_endsOf RX5 cX5_endsOf 4 (some .int) wsX5_endsOf rmX5_endsOf 1 := ⟨⟨_, rfl⟩, by decide +kernel, rfl, rfl⟩
theorem i_X5_X5_endsOf : ∀ w ∈ u_ws RX5 TX5 8, w ∈ wsX5_endsOf := fun _ h => List.mem_cons_of_mem _ (List.mem_append_right _ h)
set_option maxHeartbeats 4000000 in
set_option maxRecDepth 100000 in
theorem k_X5_endsOf (l : Launch) (g : xG) (n : Nat) (aT : Nat → Nat) (aU : Nat → Nat) (sT : TxtS) (sU : TxtS) (r : Int) (hf : p_X5_endsOf n sT sU = some r) : xMi l yX5_endsOf wsX5_endsOf rmX5_endsOf g [.ref (aT 0), .ref (aU 0)] (wT g aT sT ++ wT g aU sU) (wT g aT sT ++ wT g aU sU) r := by
  refine x_ofW_i (own := RX5) (by decide) rfl rfl (Nat.le_of_ble_eq_true rfl) ?_
  intro p e s m args below meth c ls A QQ C hRet Z hl
  have hl : lv_has ls 4 [(0, .ref (aT 0)), (1, .ref (aU 0))] := hl
  unfold p_X5_endsOf at hf
  refine x_iconst C dX5_endsOf_0 ?_
  refine lv_istore_n (lv' := [(2, .int (iI 0)), (0, .ref (aT 0)), (1, .ref (aU 0))]) C.1 C.2.1 dX5_endsOf_1 rfl hl (by decide) rfl (fun ls hl => ?_)
  refine x_iconst C dX5_endsOf_2 ?_
  refine lv_istore_n (lv' := [(3, .int (iI 0)), (2, .int (iI 0)), (0, .ref (aT 0)), (1, .ref (aU 0))]) C.1 C.2.1 dX5_endsOf_3 rfl hl (by decide) rfl (fun ls hl => ?_)
  obtain ⟨ex4, hl4, h31⟩ := bd_some hf
  clear hf
  have hK4 : ∀ (H : Heap) (locs : List Loc) (ls : Array Slot), xSt g A s (wT g aT sT ++ wT g aU sU) H locs → lv_has ls 4 [(2, .int (iI ex4))] → W p l e rmX5_endsOf s m args below meth c H locs 0 0 QQ (F0 m 30 ls []) := by
    intro H locs ls Z hl
    have h32 := h31
    clear h31
    refine lv_iload_n C.1 C.2.1 dX5_endsOf_30 rfl (lv_at hl 0 rfl) ?_
    have h33 := Option.some.inj h32
    subst h33
    exact hRet _ _ _ _ Z dX5_endsOf_31
  have hL4 : ∀ (k4 : Nat) (z4 : Int × Int) (H : Heap) (locs : List Loc) (ls : Array Slot), lp (p_X5_endsOf_b4 n sT sU) k4 z4 = some ex4 → xSt g A s (wT g aT sT ++ wT g aU sU) H locs → lv_has ls 4 [(0, .ref (aT 0)), (1, .ref (aU 0)), (2, .int (iI z4.1)), (3, .int (iI z4.2))] → W p l e rmX5_endsOf s m args below meth c H locs 0 0 QQ (F0 m 4 ls []) := by
    intro k4
    induction k4 with
    | zero => intro z4 H locs ls h; exact (lp_0 h).elim
    | succ k4 ih4 =>
      intro z4 H locs ls h Z hl
      obtain ⟨x4, hb4, hx4⟩ := lp_s h
      clear h
      unfold p_X5_endsOf_b4 at hb4
      refine lv_iload_n C.1 C.2.1 dX5_endsOf_4 rfl (lv_at hl 3 rfl) ?_
      refine lv_aload_n C.1 C.2.1 dX5_endsOf_5 rfl (lv_at hl 0 rfl) ?_
      refine x_get C Z 0 rfl rfl i_X5_X5_endsOf (k := 6) (by decide) (List.mem_of_getElem? (i := 1) rfl) rfl dX5_endsOf_6 ?_
      have q16 := (ck_some hb4).1
      have h17 := (ck_some hb4).2
      clear hb4
      have q18 := (ck_some h17).1
      have h19 := (ck_some h17).2
      clear h17
      refine x_icmp_ge (tgt := 30) C dX5_endsOf_9 (by decide) q16 q18 (fun c20 => ?_) (fun c20 => ?_)
      · have h21 := if_n h19 c20
        clear h19
        cases h21
        have h23 := lp_R hx4
        subst h23
        exact hK4 _ _ _ Z (lv_sub hl [2] rfl)
      · have h22 := if_p h19 c20
        clear h19
        refine lv_aload_n C.1 C.2.1 dX5_endsOf_12 rfl (lv_at hl 0 rfl) ?_
        refine lv_aload_n C.1 C.2.1 dX5_endsOf_13 rfl (lv_at hl 1 rfl) ?_
        refine lv_iload_n C.1 C.2.1 dX5_endsOf_14 rfl (lv_at hl 3 rfl) ?_
        obtain ⟨r24, hr24, h25⟩ := bd_some h22
        clear h22
        refine x_callV_i_id (As := [.ref (aU 0), .int (iI z4.2)]) (rest := []) (q0 := 0) C Z (k_X5_hasEnd l g n aT aU sT sU z4.2 r24 hr24) gX5_endsOf_X5_hasEnd yk_X5_hasEnd ⟨Nat.le_of_ble_eq_true rfl, Nat.le_of_ble_eq_true rfl⟩ rfl rfl ⟨Nat.zero_le _, Nat.zero_le _⟩ hl.1 rfl (Nat.le_of_ble_eq_true rfl) rfl dX5_endsOf_15 (fun H locs Z => ?_)
        have q26 := (ck_some h25).1
        have h27 := (ck_some h25).2
        clear h25
        refine x_if_eq (tgt := 24) C dX5_endsOf_18 (by decide) q26 (fun c28 => ?_) (fun c28 => ?_)
        · have h29 := if_p h27 c28
          clear h27
          refine x_iinc (lv' := [(3, .int (iI (z4.2 + 1))), (0, .ref (aT 0)), (1, .ref (aU 0)), (2, .int (iI z4.1))]) C dX5_endsOf_24 hl (k := 3) rfl (by decide) rfl (fun ls hl => ?_)
          refine lv_goto (tgt := 4) C.1 C.2.1 dX5_endsOf_27 (by decide) ?_
          cases h29
          exact ih4 (z4.1, z4.2 + 1) _ _ _ (lp_L2 hx4) Z (lv_sub hl [1, 2, 3, 0] rfl)
        · have h30 := if_n h27 c28
          clear h27
          refine x_iinc (lv' := [(2, .int (iI (z4.1 + 1))), (0, .ref (aT 0)), (1, .ref (aU 0)), (3, .int (iI z4.2))]) C dX5_endsOf_21 hl (k := 2) rfl (by decide) rfl (fun ls hl => ?_)
          refine x_iinc (lv' := [(3, .int (iI (z4.2 + 1))), (2, .int (iI (z4.1 + 1))), (0, .ref (aT 0)), (1, .ref (aU 0))]) C dX5_endsOf_24 hl (k := 3) rfl (by decide) rfl (fun ls hl => ?_)
          refine lv_goto (tgt := 4) C.1 C.2.1 dX5_endsOf_27 (by decide) ?_
          cases h30
          exact ih4 (z4.1 + 1, z4.2 + 1) _ _ _ (lp_L2 hx4) Z (lv_sub hl [2, 3, 1, 0] rfl)
  exact hL4 n (0, 0) _ _ _ hl4 Z (lv_sub hl [2, 3, 1, 0] rfl)
abbrev rmX5_mostApart : Room := { frames := 3, cells := 0, slots := 0, locals := 66 }
theorem yk_X5_mostApart : xY yX5_mostApart RX5 cX5_mostApart 5 (some .int) wsX5_mostApart rmX5_mostApart 1 := ⟨⟨_, rfl⟩, by decide +kernel, rfl, rfl⟩
theorem i_X5_X5_mostApart : ∀ w ∈ u_ws RX5 TX5 8, w ∈ wsX5_mostApart := fun _ h => List.mem_cons_of_mem _ (List.mem_append_right _ h)
set_option maxHeartbeats 4000000 in
set_option maxRecDepth 100000 in
theorem k_X5_mostApart (l : Launch) (g : xG) (n : Nat) (aT : Nat → Nat) (aU : Nat → Nat) (sT : TxtS) (sU : TxtS) (r : Int) (hf : p_X5_mostApart n sT sU = some r) : xMi l yX5_mostApart wsX5_mostApart rmX5_mostApart g [.ref (aT 0), .ref (aU 0)] (wT g aT sT ++ wT g aU sU) (wT g aT sT ++ wT g aU sU) r := by
  refine x_ofW_i (own := RX5) (by decide) rfl rfl (Nat.le_of_ble_eq_true rfl) ?_
  intro p e s m args below meth c ls A QQ C hRet Z hl
  have hl : lv_has ls 5 [(0, .ref (aT 0)), (1, .ref (aU 0))] := hl
  unfold p_X5_mostApart at hf
  refine x_iconst C dX5_mostApart_0 ?_
  refine lv_istore_n (lv' := [(2, .int (iI 0)), (0, .ref (aT 0)), (1, .ref (aU 0))]) C.1 C.2.1 dX5_mostApart_1 rfl hl (by decide) rfl (fun ls hl => ?_)
  refine x_iconst C dX5_mostApart_2 ?_
  refine lv_istore_n (lv' := [(3, .int (iI 0)), (2, .int (iI 0)), (0, .ref (aT 0)), (1, .ref (aU 0))]) C.1 C.2.1 dX5_mostApart_3 rfl hl (by decide) rfl (fun ls hl => ?_)
  refine x_iconst C dX5_mostApart_4 ?_
  refine lv_istore (lv' := [(4, .int (iI 0)), (3, .int (iI 0)), (2, .int (iI 0)), (0, .ref (aT 0)), (1, .ref (aU 0))]) C.1 C.2.1 dX5_mostApart_5 hl (by decide) rfl (fun ls hl => ?_)
  obtain ⟨ex7, hl7, h49⟩ := bd_some hf
  clear hf
  have hK7 : ∀ (H : Heap) (locs : List Loc) (ls : Array Slot), xSt g A s (wT g aT sT ++ wT g aU sU) H locs → lv_has ls 5 [(2, .int (iI ex7))] → W p l e rmX5_mostApart s m args below meth c H locs 0 0 QQ (F0 m 53 ls []) := by
    intro H locs ls Z hl
    have h50 := h49
    clear h49
    refine lv_iload_n C.1 C.2.1 dX5_mostApart_53 rfl (lv_at hl 0 rfl) ?_
    have h51 := Option.some.inj h50
    subst h51
    exact hRet _ _ _ _ Z dX5_mostApart_54
  have hL7 : ∀ (k7 : Nat) (z7 : Int × Int × Int) (H : Heap) (locs : List Loc) (ls : Array Slot), lp (p_X5_mostApart_b7 n sT sU) k7 z7 = some ex7 → xSt g A s (wT g aT sT ++ wT g aU sU) H locs → lv_has ls 5 [(0, .ref (aT 0)), (1, .ref (aU 0)), (2, .int (iI z7.1)), (3, .int (iI z7.2.1)), (4, .int (iI z7.2.2))] → W p l e rmX5_mostApart s m args below meth c H locs 0 0 QQ (F0 m 7 ls []) := by
    intro k7
    induction k7 with
    | zero => intro z7 H locs ls h; exact (lp_0 h).elim
    | succ k7 ih7 =>
      intro z7 H locs ls h Z hl
      obtain ⟨x7, hb7, hx7⟩ := lp_s h
      clear h
      unfold p_X5_mostApart_b7 at hb7
      refine lv_iload C.1 C.2.1 dX5_mostApart_7 (lv_at hl 4 rfl) ?_
      refine lv_aload_n C.1 C.2.1 dX5_mostApart_9 rfl (lv_at hl 0 rfl) ?_
      refine x_get C Z 0 rfl rfl i_X5_X5_mostApart (k := 6) (by decide) (List.mem_of_getElem? (i := 1) rfl) rfl dX5_mostApart_10 ?_
      have q25 := (ck_some hb7).1
      have h26 := (ck_some hb7).2
      clear hb7
      have q27 := (ck_some h26).1
      have h28 := (ck_some h26).2
      clear h26
      refine x_icmp_ge (tgt := 53) C dX5_mostApart_13 (by decide) q25 q27 (fun c29 => ?_) (fun c29 => ?_)
      · have h30 := if_n h28 c29
        clear h28
        cases h30
        have h32 := lp_R hx7
        subst h32
        exact hK7 _ _ _ Z (lv_sub hl [2] rfl)
      · have h31 := if_p h28 c29
        clear h28
        refine lv_iload C.1 C.2.1 dX5_mostApart_16 (lv_at hl 4 rfl) ?_
        refine lv_aload_n C.1 C.2.1 dX5_mostApart_18 rfl (lv_at hl 1 rfl) ?_
        obtain ⟨r33, hr33, h34⟩ := bd_some h31
        clear h31
        refine x_callV_i_J (As := []) (rest := [.int (iI z7.2.2)]) (q0 := 0) (ws2 := wT g aT sT ++ wT g aU sU) C Z fr_TU_1 (k_X5_length l g n aU sU r33 hr33) gX5_mostApart_X5_length yk_X5_length ⟨Nat.le_of_ble_eq_true rfl, Nat.le_of_ble_eq_true rfl⟩ rfl rfl ⟨Nat.zero_le _, Nat.zero_le _⟩ hl.1 rfl (Nat.le_of_ble_eq_true rfl) rfl dX5_mostApart_19 (fun H locs Z => ?_)
        refine x_isub C dX5_mostApart_22 ?_
        refine x_iconst C dX5_mostApart_23 ?_
        refine x_iadd C dX5_mostApart_24 ?_
        refine lv_iload_n C.1 C.2.1 dX5_mostApart_25 rfl (lv_at hl 3 rfl) ?_
        have q35 := (ck_some h34).1
        have h36 := (ck_some h34).2
        clear h34
        have q37 := (ck_some h36).1
        have h38 := (ck_some h36).2
        clear h36
        refine x_icmp_lt (tgt := 47) C dX5_mostApart_26 (by decide) q35 q37 (fun c39 => ?_) (fun c39 => ?_)
        · have h40 := if_p h38 c39
          clear h38
          refine x_iinc (lv' := [(4, .int (iI (z7.2.2 + 1))), (0, .ref (aT 0)), (1, .ref (aU 0)), (2, .int (iI z7.1)), (3, .int (iI z7.2.1))]) C dX5_mostApart_47 hl (k := 4) rfl (by decide) rfl (fun ls hl => ?_)
          refine lv_goto (tgt := 7) C.1 C.2.1 dX5_mostApart_50 (by decide) ?_
          cases h40
          exact ih7 (z7.1, z7.2.1, z7.2.2 + 1) _ _ _ (lp_L2 hx7) Z (lv_sub hl [1, 2, 3, 4, 0] rfl)
        · have h41 := if_n h38 c39
          clear h38
          refine lv_aload_n C.1 C.2.1 dX5_mostApart_29 rfl (lv_at hl 0 rfl) ?_
          refine lv_aload_n C.1 C.2.1 dX5_mostApart_30 rfl (lv_at hl 1 rfl) ?_
          refine lv_iload C.1 C.2.1 dX5_mostApart_31 (lv_at hl 4 rfl) ?_
          obtain ⟨r42, hr42, h43⟩ := bd_some h41
          clear h41
          refine x_callV_i_id (As := [.ref (aU 0), .int (iI z7.2.2)]) (rest := []) (q0 := 0) C Z (k_X5_hasEnd l g n aT aU sT sU z7.2.2 r42 hr42) gX5_mostApart_X5_hasEnd yk_X5_hasEnd ⟨Nat.le_of_ble_eq_true rfl, Nat.le_of_ble_eq_true rfl⟩ rfl rfl ⟨Nat.zero_le _, Nat.zero_le _⟩ hl.1 rfl (Nat.le_of_ble_eq_true rfl) rfl dX5_mostApart_33 (fun H locs Z => ?_)
          have q44 := (ck_some h43).1
          have h45 := (ck_some h43).2
          clear h43
          refine x_if_eq (tgt := 47) C dX5_mostApart_36 (by decide) q44 (fun c46 => ?_) (fun c46 => ?_)
          · have h47 := if_p h45 c46
            clear h45
            refine x_iinc (lv' := [(4, .int (iI (z7.2.2 + 1))), (0, .ref (aT 0)), (1, .ref (aU 0)), (2, .int (iI z7.1)), (3, .int (iI z7.2.1))]) C dX5_mostApart_47 hl (k := 4) rfl (by decide) rfl (fun ls hl => ?_)
            refine lv_goto (tgt := 7) C.1 C.2.1 dX5_mostApart_50 (by decide) ?_
            cases h47
            exact ih7 (z7.1, z7.2.1, z7.2.2 + 1) _ _ _ (lp_L2 hx7) Z (lv_sub hl [1, 2, 3, 4, 0] rfl)
          · have h48 := if_n h45 c46
            clear h45
            refine x_iinc (lv' := [(2, .int (iI (z7.1 + 1))), (0, .ref (aT 0)), (1, .ref (aU 0)), (3, .int (iI z7.2.1)), (4, .int (iI z7.2.2))]) C dX5_mostApart_39 hl (k := 2) rfl (by decide) rfl (fun ls hl => ?_)
            refine lv_iload C.1 C.2.1 dX5_mostApart_42 (lv_at hl 4 rfl) ?_
            refine x_iconst C dX5_mostApart_44 ?_
            refine x_iadd C dX5_mostApart_45 ?_
            refine lv_istore_n (lv' := [(3, .int (iI (z7.2.2 + 1))), (2, .int (iI (z7.1 + 1))), (0, .ref (aT 0)), (1, .ref (aU 0)), (4, .int (iI z7.2.2))]) C.1 C.2.1 dX5_mostApart_46 rfl hl (by decide) rfl (fun ls hl => ?_)
            refine x_iinc (lv' := [(4, .int (iI (z7.2.2 + 1))), (3, .int (iI (z7.2.2 + 1))), (2, .int (iI (z7.1 + 1))), (0, .ref (aT 0)), (1, .ref (aU 0))]) C dX5_mostApart_47 hl (k := 4) rfl (by decide) rfl (fun ls hl => ?_)
            refine lv_goto (tgt := 7) C.1 C.2.1 dX5_mostApart_50 (by decide) ?_
            cases h48
            exact ih7 (z7.1 + 1, z7.2.2 + 1, z7.2.2 + 1) _ _ _ (lp_L2 hx7) Z (lv_sub hl [3, 4, 2, 1, 0] rfl)
  exact hL7 n (0, 0, 0) _ _ _ hl7 Z (lv_sub hl [3, 4, 2, 1, 0] rfl)
abbrev rmX6_occurs : Room := { frames := 6, cells := 0, slots := 0, locals := 140 }
theorem yk_X6_occurs : xY yX6_occurs RX6 cX6_occurs 2 (some .int) wsX6_occurs rmX6_occurs 1 := ⟨⟨_, rfl⟩, by decide +kernel, rfl, rfl⟩
theorem i_X1_X6_occurs : ∀ w ∈ u_ws RX1 TX1 13, w ∈ wsX6_occurs := fun _ h => List.mem_cons_of_mem _ (List.mem_append_left _ (List.mem_append_right _ h))
theorem i_X2_X6_occurs : ∀ w ∈ u_ws RX2 TX2 5, w ∈ wsX6_occurs := fun _ h => List.mem_cons_of_mem _ (List.mem_append_left _ (List.mem_append_left _ (List.mem_append_right _ h)))
theorem i_X3_X6_occurs : ∀ w ∈ u_ws RX3 TX3 2, w ∈ wsX6_occurs := fun _ h => List.mem_cons_of_mem _ (List.mem_append_left _ (List.mem_append_left _ (List.mem_append_left _ (List.mem_append_left _ (List.mem_append_right _ h)))))
theorem i_X4_X6_occurs : ∀ w ∈ u_ws RX4 TX4 1, w ∈ wsX6_occurs := fun _ h => List.mem_cons_of_mem _ (List.mem_append_right _ h)
theorem i_X5_X6_occurs : ∀ w ∈ u_ws RX5 TX5 8, w ∈ wsX6_occurs := fun _ h => List.mem_cons_of_mem _ (List.mem_append_left _ (List.mem_append_left _ (List.mem_append_left _ (List.mem_append_right _ h))))
theorem i_X6_X6_occurs : ∀ w ∈ u_ws RX6 TX6 11, w ∈ wsX6_occurs := fun _ h => List.mem_cons_of_mem _ (List.mem_append_left _ (List.mem_append_left _ (List.mem_append_left _ (List.mem_append_left _ (List.mem_append_left _ (List.mem_append_right _ h))))))
set_option maxHeartbeats 4000000 in
set_option maxRecDepth 100000 in
theorem k_X6_occurs (l : Launch) (g : xG) (n : Nat) (aF : Nat → Nat) (aH : Nat → Nat) (aP : Nat → Nat) (aT : Nat → Nat) (aC : Nat → Nat) (aK : Nat → Nat) (aB : Nat → Nat) (aQ : Nat → Nat) (aU : Nat → Nat) (aV : Nat → Nat) (aS : Nat → Nat) (aR : Nat → Nat) (rr : Nat → Nat) (sF : Int) (sH : HisS) (sP : PadS) (sT : TxtS) (sC : ClsS) (sK : SwpS) (sB : BegS) (sQ : TxtS) (sU : TxtS) (sV : TxtS) (sS : SwpS) (sR : SwpS) (v1 : Int) (r : Int × TxtS × ClsS × SwpS × TxtS) (hf : p_X6_occurs n sF sH sP sT sC sK sQ v1 = some r) : xMi l yX6_occurs wsX6_occurs rmX6_occurs g [.ref (aF 0), .int (iI v1)] ((wF g aF (aH 0) (aP 0) (aT 0) (aC 0) (aB 0) (aQ 0) (aU 0) (aV 0) (aS 0) (aR 0) sF ++ (wH g aH sH ++ (wP g aP sP ++ (wT g aT sT ++ (wC g aC (aK 0) rr sC ++ (wS g aK sK ++ (wB g aB sB ++ (wT g aQ sQ ++ (wT g aU sU ++ (wT g aV sV ++ (wS g aS sS ++ wS g aR sR))))))))))) ++ wR g rr sC.classOf) ((wF g aF (aH 0) (aP 0) (aT 0) (aC 0) (aB 0) (aQ 0) (aU 0) (aV 0) (aS 0) (aR 0) sF ++ (wH g aH sH ++ (wP g aP sP ++ (wT g aT r.2.1 ++ (wC g aC (aK 0) rr r.2.2.1 ++ (wS g aK r.2.2.2.1 ++ (wB g aB sB ++ (wT g aQ r.2.2.2.2 ++ (wT g aU sU ++ (wT g aV sV ++ (wS g aS sS ++ wS g aR sR))))))))))) ++ wR g rr r.2.2.1.classOf) r.1 := by
  refine x_ofW_i (own := RX6) (by decide) rfl rfl (Nat.le_of_ble_eq_true rfl) ?_
  intro p e s m args below meth c ls A QQ C hRet Z hl
  have hl : lv_has ls 2 [(0, .ref (aF 0)), (1, .int (iI v1))] := hl
  unfold p_X6_occurs at hf
  refine lv_iload_n C.1 C.2.1 dX6_occurs_0 rfl (lv_at hl 1 rfl) ?_
  have q1 := (ck_some hf).1
  have h2 := (ck_some hf).2
  clear hf
  refine x_if_lt (tgt := 9) C dX6_occurs_1 (by decide) q1 (fun c3 => ?_) (fun c3 => ?_)
  · have h4 := if_p h2 c3
    clear h2
    refine x_bipush C dX6_occurs_9 (by decide) ?_
    have h6 := Option.some.inj h4
    subst h6
    exact hRet _ _ _ _ Z dX6_occurs_11
  · have h5 := if_n h2 c3
    clear h2
    refine lv_iload_n C.1 C.2.1 dX6_occurs_4 rfl (lv_at hl 1 rfl) ?_
    refine x_iconst C dX6_occurs_5 ?_
    refine x_icmp_le (tgt := 12) C dX6_occurs_6 (by decide) q1 (by decide) (fun c7 => ?_) (fun c7 => ?_)
    · have h8 := if_n h5 c7
      clear h5
      refine lv_aload_n C.1 C.2.1 dX6_occurs_12 rfl (lv_at hl 0 rfl) ?_
      obtain ⟨r10, hr10, h11⟩ := bd_some h8
      clear h8
      refine x_callV_i_id (As := []) (rest := []) (q0 := 0) C Z (k_X6_readPattern l g n aF aH aP aT aC aK aB aQ aU aV aS aR rr sF sH sP sT sC sK sB sQ sU sV sS sR r10 hr10) gX6_occurs_X6_readPattern yk_X6_readPattern ⟨Nat.le_of_ble_eq_true rfl, Nat.le_of_ble_eq_true rfl⟩ rfl rfl ⟨Nat.zero_le _, Nat.zero_le _⟩ hl.1 rfl (Nat.le_of_ble_eq_true rfl) rfl dX6_occurs_13 (fun H locs Z => ?_)
      have q12 := (ck_some h11).1
      have h13 := (ck_some h11).2
      clear h11
      refine x_if_ne (tgt := 22) C dX6_occurs_16 (by decide) q12 (fun c14 => ?_) (fun c14 => ?_)
      · have h15 := if_n h13 c14
        clear h13
        refine lv_aload_n C.1 C.2.1 dX6_occurs_22 rfl (lv_at hl 0 rfl) ?_
        obtain ⟨r17, hr17, h18⟩ := bd_some h15
        clear h15
        refine x_callV_v_id (As := []) (rest := []) (q0 := 0) C Z (k_X6_showPresent l g n aF aH aP aT aC aK aB aQ aU aV aS aR rr sF sH sP sT sC sK sB r10.2 sU sV sS sR r17 hr17) gX6_occurs_X6_showPresent yk_X6_showPresent ⟨Nat.le_of_ble_eq_true rfl, Nat.le_of_ble_eq_true rfl⟩ rfl rfl ⟨Nat.zero_le _, Nat.zero_le _⟩ hl.1 rfl (Nat.le_of_ble_eq_true rfl) rfl dX6_occurs_23 (fun H locs Z => ?_)
        refine lv_iload_n C.1 C.2.1 dX6_occurs_26 rfl (lv_at hl 1 rfl) ?_
        by_cases c19 : v1 = 0
        · have h20 := if_p h18 c19
          clear h18
          refine x_tin (tgt := 52) C dX6_occurs_27 q1 c19 (by decide) (by decide) (by rfl) (by decide) ?_
          refine lv_aload_n C.1 C.2.1 dX6_occurs_52 rfl (lv_at hl 0 rfl) ?_
          refine x_get C Z 0 rfl rfl i_X6_X6_occurs (k := 2) (by decide) (List.mem_of_getElem? (i := 1) rfl) rfl dX6_occurs_53 ?_
          refine lv_aload_n C.1 C.2.1 dX6_occurs_56 rfl (lv_at hl 0 rfl) ?_
          refine x_get C Z 0 rfl rfl i_X6_X6_occurs (k := 5) (by decide) (List.mem_of_getElem? (i := 2) rfl) rfl dX6_occurs_57 ?_
          obtain ⟨r22, hr22, h23⟩ := bd_some h20
          clear h20
          refine x_callV_i_Q (As := [.ref (aQ 0)]) (rest := []) (q0 := 0) (X2 := (wF g aF (aH 0) (aP 0) (aT 0) (aC 0) (aB 0) (aQ 0) (aU 0) (aV 0) (aS 0) (aR 0) sF ++ (wH g aH sH ++ (wP g aP sP ++ (wT g aT r17 ++ (wC g aC (aK 0) rr sC ++ (wS g aK sK ++ (wB g aB sB ++ (wT g aQ r10.2 ++ (wT g aU sU ++ (wT g aV sV ++ (wS g aS sS ++ wS g aR sR)))))))))))) C Z fr_FHPTCKBQUVSR_3_7 (k_X5_endsOf l g n aT aQ r17 r10.2 r22 hr22) gX6_occurs_X5_endsOf yk_X5_endsOf ⟨Nat.le_of_ble_eq_true rfl, Nat.le_of_ble_eq_true rfl⟩ rfl rfl ⟨Nat.zero_le _, Nat.zero_le _⟩ hl.1 rfl (Nat.le_of_ble_eq_true rfl) rfl dX6_occurs_60 (fun H locs Z => ?_)
          have h24 := Option.some.inj h23
          subst h24
          exact hRet _ _ _ _ Z dX6_occurs_63
        have h21 := if_n h18 c19
        clear h18
        by_cases c25 : v1 = 1
        · have h26 := if_p h21 c25
          clear h21
          refine x_tin (tgt := 64) C dX6_occurs_27 q1 c25 (by decide) (by decide) (by rfl) (by decide) ?_
          refine lv_aload_n C.1 C.2.1 dX6_occurs_64 rfl (lv_at hl 0 rfl) ?_
          refine x_get C Z 0 rfl rfl i_X6_X6_occurs (k := 2) (by decide) (List.mem_of_getElem? (i := 1) rfl) rfl dX6_occurs_65 ?_
          refine lv_aload_n C.1 C.2.1 dX6_occurs_68 rfl (lv_at hl 0 rfl) ?_
          refine x_get C Z 0 rfl rfl i_X6_X6_occurs (k := 5) (by decide) (List.mem_of_getElem? (i := 2) rfl) rfl dX6_occurs_69 ?_
          obtain ⟨r28, hr28, h29⟩ := bd_some h26
          clear h26
          refine x_callV_i_Q (As := [.ref (aQ 0)]) (rest := []) (q0 := 0) (X2 := (wF g aF (aH 0) (aP 0) (aT 0) (aC 0) (aB 0) (aQ 0) (aU 0) (aV 0) (aS 0) (aR 0) sF ++ (wH g aH sH ++ (wP g aP sP ++ (wT g aT r17 ++ (wC g aC (aK 0) rr sC ++ (wS g aK sK ++ (wB g aB sB ++ (wT g aQ r10.2 ++ (wT g aU sU ++ (wT g aV sV ++ (wS g aS sS ++ wS g aR sR)))))))))))) C Z fr_FHPTCKBQUVSR_3_7 (k_X5_wordsWith l g n aT aQ r17 r10.2 r28 hr28) gX6_occurs_X5_wordsWith yk_X5_wordsWith ⟨Nat.le_of_ble_eq_true rfl, Nat.le_of_ble_eq_true rfl⟩ rfl rfl ⟨Nat.zero_le _, Nat.zero_le _⟩ hl.1 rfl (Nat.le_of_ble_eq_true rfl) rfl dX6_occurs_72 (fun H locs Z => ?_)
          have h30 := Option.some.inj h29
          subst h30
          exact hRet _ _ _ _ Z dX6_occurs_75
        have h27 := if_n h21 c25
        clear h21
        by_cases c31 : v1 = 2
        · have h32 := if_p h27 c31
          clear h27
          refine x_tin (tgt := 76) C dX6_occurs_27 q1 c31 (by decide) (by decide) (by rfl) (by decide) ?_
          refine lv_aload_n C.1 C.2.1 dX6_occurs_76 rfl (lv_at hl 0 rfl) ?_
          obtain ⟨r34, hr34, h35⟩ := bd_some h32
          clear h32
          refine x_callV_i_id (As := []) (rest := []) (q0 := 0) C Z (k_X6_classOfPattern l g n aF aH aP aT aC aK aB aQ aU aV aS aR rr sF sH sP r17 sC sK sB r10.2 sU sV sS sR r34 hr34) gX6_occurs_X6_classOfPattern yk_X6_classOfPattern ⟨Nat.le_of_ble_eq_true rfl, Nat.le_of_ble_eq_true rfl⟩ rfl rfl ⟨Nat.zero_le _, Nat.zero_le _⟩ hl.1 rfl (Nat.le_of_ble_eq_true rfl) rfl dX6_occurs_77 (fun H locs Z => ?_)
          have h36 := Option.some.inj h35
          subst h36
          exact hRet _ _ _ _ Z dX6_occurs_80
        have h33 := if_n h27 c31
        clear h27
        refine x_tout (tgt := 81) C dX6_occurs_27 q1 (by omega) (by decide) ?_
        refine lv_aload_n C.1 C.2.1 dX6_occurs_81 rfl (lv_at hl 0 rfl) ?_
        refine x_get C Z 0 rfl rfl i_X6_X6_occurs (k := 2) (by decide) (List.mem_of_getElem? (i := 1) rfl) rfl dX6_occurs_82 ?_
        refine lv_aload_n C.1 C.2.1 dX6_occurs_85 rfl (lv_at hl 0 rfl) ?_
        refine x_get C Z 0 rfl rfl i_X6_X6_occurs (k := 5) (by decide) (List.mem_of_getElem? (i := 2) rfl) rfl dX6_occurs_86 ?_
        obtain ⟨r37, hr37, h38⟩ := bd_some h33
        clear h33
        refine x_callV_i_Q (As := [.ref (aQ 0)]) (rest := []) (q0 := 0) (X2 := (wF g aF (aH 0) (aP 0) (aT 0) (aC 0) (aB 0) (aQ 0) (aU 0) (aV 0) (aS 0) (aR 0) sF ++ (wH g aH sH ++ (wP g aP sP ++ (wT g aT r17 ++ (wC g aC (aK 0) rr sC ++ (wS g aK sK ++ (wB g aB sB ++ (wT g aQ r10.2 ++ (wT g aU sU ++ (wT g aV sV ++ (wS g aS sS ++ wS g aR sR)))))))))))) C Z fr_FHPTCKBQUVSR_3_7 (k_X5_mostApart l g n aT aQ r17 r10.2 r37 hr37) gX6_occurs_X5_mostApart yk_X5_mostApart ⟨Nat.le_of_ble_eq_true rfl, Nat.le_of_ble_eq_true rfl⟩ rfl rfl ⟨Nat.zero_le _, Nat.zero_le _⟩ hl.1 rfl (Nat.le_of_ble_eq_true rfl) rfl dX6_occurs_89 (fun H locs Z => ?_)
        have h39 := Option.some.inj h38
        subst h39
        exact hRet _ _ _ _ Z dX6_occurs_92
      · have h16 := if_p h13 c14
        clear h13
        refine x_bipush C dX6_occurs_19 (by decide) ?_
        have h40 := Option.some.inj h16
        subst h40
        exact hRet _ _ _ _ Z dX6_occurs_21
    · have h9 := if_p h5 c7
      clear h5
      refine x_bipush C dX6_occurs_9 (by decide) ?_
      have h41 := Option.some.inj h9
      subst h41
      exact hRet _ _ _ _ Z dX6_occurs_11
abbrev rmX5_placeCode : Room := { frames := 2, cells := 0, slots := 0, locals := 42 }
theorem yk_X5_placeCode : xY yX5_placeCode RX5 cX5_placeCode 2 (some .int) wsX5_placeCode rmX5_placeCode 1 := ⟨⟨_, rfl⟩, by decide +kernel, rfl, rfl⟩
theorem i_X5_X5_placeCode : ∀ w ∈ u_ws RX5 TX5 8, w ∈ wsX5_placeCode := fun _ h => List.mem_cons_of_mem _ (List.mem_append_right _ h)
set_option maxHeartbeats 4000000 in
set_option maxRecDepth 100000 in
theorem k_X5_placeCode (l : Launch) (g : xG) (n : Nat) (aT : Nat → Nat) (sT : TxtS) (v1 : Int) (r : Int) (hf : p_X5_placeCode sT v1 = some r) : xMi l yX5_placeCode wsX5_placeCode rmX5_placeCode g [.ref (aT 0), .int (iI v1)] (wT g aT sT) (wT g aT sT) r := by
  refine x_ofW_i (own := RX5) (by decide) rfl rfl (Nat.le_of_ble_eq_true rfl) ?_
  intro p e s m args below meth c ls A QQ C hRet Z hl
  have hl : lv_has ls 2 [(0, .ref (aT 0)), (1, .int (iI v1))] := hl
  unfold p_X5_placeCode at hf
  refine x_bipush C dX5_placeCode_0 (by decide) ?_
  refine lv_aload_n C.1 C.2.1 dX5_placeCode_2 rfl (lv_at hl 0 rfl) ?_
  refine lv_iload_n C.1 C.2.1 dX5_placeCode_3 rfl (lv_at hl 1 rfl) ?_
  obtain ⟨r1, hr1, h2⟩ := bd_some hf
  clear hf
  refine x_callV_i_id (As := [.int (iI v1)]) (rest := [.int (iI 100)]) (q0 := 0) C Z (k_X5_wordAt l g n aT sT v1 r1 hr1) gX5_placeCode_X5_wordAt yk_X5_wordAt ⟨Nat.le_of_ble_eq_true rfl, Nat.le_of_ble_eq_true rfl⟩ rfl rfl ⟨Nat.zero_le _, Nat.zero_le _⟩ hl.1 rfl (Nat.le_of_ble_eq_true rfl) rfl dX5_placeCode_4 (fun H locs Z => ?_)
  refine x_imul C dX5_placeCode_7 ?_
  refine lv_aload_n C.1 C.2.1 dX5_placeCode_8 rfl (lv_at hl 0 rfl) ?_
  refine lv_iload_n C.1 C.2.1 dX5_placeCode_9 rfl (lv_at hl 1 rfl) ?_
  obtain ⟨r3, hr3, h4⟩ := bd_some h2
  clear h2
  refine x_callV_i_id (As := [.int (iI v1)]) (rest := [.int (iI (100 * r1))]) (q0 := 0) C Z (k_X5_placeAt l g n aT sT v1 r3 hr3) gX5_placeCode_X5_placeAt yk_X5_placeAt ⟨Nat.le_of_ble_eq_true rfl, Nat.le_of_ble_eq_true rfl⟩ rfl rfl ⟨Nat.zero_le _, Nat.zero_le _⟩ hl.1 rfl (Nat.le_of_ble_eq_true rfl) rfl dX5_placeCode_10 (fun H locs Z => ?_)
  refine x_iadd C dX5_placeCode_13 ?_
  have h5 := Option.some.inj h4
  subst h5
  exact hRet _ _ _ _ Z dX5_placeCode_14
abbrev rmX6_end : Room := { frames := 4, cells := 0, slots := 0, locals := 90 }
theorem yk_X6_end : xY yX6_end RX6 cX6_end 3 (some .int) wsX6_end rmX6_end 1 := ⟨⟨_, rfl⟩, by decide +kernel, rfl, rfl⟩
theorem i_X2_X6_end : ∀ w ∈ u_ws RX2 TX2 5, w ∈ wsX6_end := fun _ h => List.mem_cons_of_mem _ (List.mem_append_right _ h)
theorem i_X3_X6_end : ∀ w ∈ u_ws RX3 TX3 2, w ∈ wsX6_end := fun _ h => List.mem_cons_of_mem _ (List.mem_append_left _ (List.mem_append_left _ (List.mem_append_right _ h)))
theorem i_X5_X6_end : ∀ w ∈ u_ws RX5 TX5 8, w ∈ wsX6_end := fun _ h => List.mem_cons_of_mem _ (List.mem_append_left _ (List.mem_append_right _ h))
theorem i_X6_X6_end : ∀ w ∈ u_ws RX6 TX6 11, w ∈ wsX6_end := fun _ h => List.mem_cons_of_mem _ (List.mem_append_left _ (List.mem_append_left _ (List.mem_append_left _ (List.mem_append_right _ h))))
set_option maxHeartbeats 4000000 in
set_option maxRecDepth 100000 in
theorem k_X6_end (l : Launch) (g : xG) (n : Nat) (aF : Nat → Nat) (aH : Nat → Nat) (aP : Nat → Nat) (aT : Nat → Nat) (aC : Nat → Nat) (aK : Nat → Nat) (aB : Nat → Nat) (aQ : Nat → Nat) (aU : Nat → Nat) (aV : Nat → Nat) (aS : Nat → Nat) (aR : Nat → Nat) (rr : Nat → Nat) (sF : Int) (sH : HisS) (sP : PadS) (sT : TxtS) (sC : ClsS) (sK : SwpS) (sB : BegS) (sQ : TxtS) (sU : TxtS) (sV : TxtS) (sS : SwpS) (sR : SwpS) (v1 : Int) (r : Int × TxtS × TxtS) (hf : p_X6_end n sF sH sP sT sQ v1 = some r) : xMi l yX6_end wsX6_end rmX6_end g [.ref (aF 0), .int (iI v1)] ((wF g aF (aH 0) (aP 0) (aT 0) (aC 0) (aB 0) (aQ 0) (aU 0) (aV 0) (aS 0) (aR 0) sF ++ (wH g aH sH ++ (wP g aP sP ++ (wT g aT sT ++ (wC g aC (aK 0) rr sC ++ (wS g aK sK ++ (wB g aB sB ++ (wT g aQ sQ ++ (wT g aU sU ++ (wT g aV sV ++ (wS g aS sS ++ wS g aR sR))))))))))) ++ wR g rr sC.classOf) ((wF g aF (aH 0) (aP 0) (aT 0) (aC 0) (aB 0) (aQ 0) (aU 0) (aV 0) (aS 0) (aR 0) sF ++ (wH g aH sH ++ (wP g aP sP ++ (wT g aT r.2.1 ++ (wC g aC (aK 0) rr sC ++ (wS g aK sK ++ (wB g aB sB ++ (wT g aQ r.2.2 ++ (wT g aU sU ++ (wT g aV sV ++ (wS g aS sS ++ wS g aR sR))))))))))) ++ wR g rr sC.classOf) r.1 := by
  refine x_ofW_i (own := RX6) (by decide) rfl rfl (Nat.le_of_ble_eq_true rfl) ?_
  intro p e s m args below meth c ls A QQ C hRet Z hl
  have hl : lv_has ls 3 [(0, .ref (aF 0)), (1, .int (iI v1))] := hl
  unfold p_X6_end at hf
  refine lv_aload_n C.1 C.2.1 dX6_end_0 rfl (lv_at hl 0 rfl) ?_
  obtain ⟨r1, hr1, h2⟩ := bd_some hf
  clear hf
  refine x_callV_i_id (As := []) (rest := []) (q0 := 0) C Z (k_X6_readPattern l g n aF aH aP aT aC aK aB aQ aU aV aS aR rr sF sH sP sT sC sK sB sQ sU sV sS sR r1 hr1) gX6_end_X6_readPattern yk_X6_readPattern ⟨Nat.le_of_ble_eq_true rfl, Nat.le_of_ble_eq_true rfl⟩ rfl rfl ⟨Nat.zero_le _, Nat.zero_le _⟩ hl.1 rfl (Nat.le_of_ble_eq_true rfl) rfl dX6_end_1 (fun H locs Z => ?_)
  have q3 := (ck_some h2).1
  have h4 := (ck_some h2).2
  clear h2
  refine x_if_ne (tgt := 10) C dX6_end_4 (by decide) q3 (fun c5 => ?_) (fun c5 => ?_)
  · have h6 := if_n h4 c5
    clear h4
    refine lv_aload_n C.1 C.2.1 dX6_end_10 rfl (lv_at hl 0 rfl) ?_
    obtain ⟨r8, hr8, h9⟩ := bd_some h6
    clear h6
    refine x_callV_v_id (As := []) (rest := []) (q0 := 0) C Z (k_X6_showPresent l g n aF aH aP aT aC aK aB aQ aU aV aS aR rr sF sH sP sT sC sK sB r1.2 sU sV sS sR r8 hr8) gX6_end_X6_showPresent yk_X6_showPresent ⟨Nat.le_of_ble_eq_true rfl, Nat.le_of_ble_eq_true rfl⟩ rfl rfl ⟨Nat.zero_le _, Nat.zero_le _⟩ hl.1 rfl (Nat.le_of_ble_eq_true rfl) rfl dX6_end_11 (fun H locs Z => ?_)
    refine lv_aload_n C.1 C.2.1 dX6_end_14 rfl (lv_at hl 0 rfl) ?_
    refine x_get C Z 0 rfl rfl i_X6_X6_end (k := 2) (by decide) (List.mem_of_getElem? (i := 1) rfl) rfl dX6_end_15 ?_
    refine lv_aload_n C.1 C.2.1 dX6_end_18 rfl (lv_at hl 0 rfl) ?_
    refine x_get C Z 0 rfl rfl i_X6_X6_end (k := 5) (by decide) (List.mem_of_getElem? (i := 2) rfl) rfl dX6_end_19 ?_
    refine lv_iload_n C.1 C.2.1 dX6_end_22 rfl (lv_at hl 1 rfl) ?_
    obtain ⟨r10, hr10, h11⟩ := bd_some h9
    clear h9
    refine x_callV_i_Q (As := [.ref (aQ 0), .int (iI v1)]) (rest := []) (q0 := 0) (X2 := (wF g aF (aH 0) (aP 0) (aT 0) (aC 0) (aB 0) (aQ 0) (aU 0) (aV 0) (aS 0) (aR 0) sF ++ (wH g aH sH ++ (wP g aP sP ++ (wT g aT r8 ++ (wC g aC (aK 0) rr sC ++ (wS g aK sK ++ (wB g aB sB ++ (wT g aQ r1.2 ++ (wT g aU sU ++ (wT g aV sV ++ (wS g aS sS ++ wS g aR sR)))))))))))) C Z fr_FHPTCKBQUVSR_3_7 (k_X5_endNumber l g n aT aQ r8 r1.2 v1 r10 hr10) gX6_end_X5_endNumber yk_X5_endNumber ⟨Nat.le_of_ble_eq_true rfl, Nat.le_of_ble_eq_true rfl⟩ rfl rfl ⟨Nat.zero_le _, Nat.zero_le _⟩ hl.1 rfl (Nat.le_of_ble_eq_true rfl) rfl dX6_end_23 (fun H locs Z => ?_)
    refine lv_istore_n (lv' := [(2, .int (iI r10)), (0, .ref (aF 0)), (1, .int (iI v1))]) C.1 C.2.1 dX6_end_26 rfl hl (by decide) rfl (fun ls hl => ?_)
    refine lv_iload_n C.1 C.2.1 dX6_end_27 rfl (lv_at hl 0 rfl) ?_
    refine x_bipush C dX6_end_28 (by decide) ?_
    have q12 := (ck_some h11).1
    have h13 := (ck_some h11).2
    clear h11
    refine x_icmp_ne (tgt := 38) C dX6_end_30 (by decide) q12 (by decide) (fun c14 => ?_) (fun c14 => ?_)
    · have h15 := if_n h13 c14
      clear h13
      refine lv_aload_n C.1 C.2.1 dX6_end_38 rfl (lv_at hl 1 rfl) ?_
      refine x_get C Z 0 rfl rfl i_X6_X6_end (k := 2) (by decide) (List.mem_of_getElem? (i := 1) rfl) rfl dX6_end_39 ?_
      refine lv_iload_n C.1 C.2.1 dX6_end_42 rfl (lv_at hl 0 rfl) ?_
      obtain ⟨r17, hr17, h18⟩ := bd_some h15
      clear h15
      refine x_callV_i_Q (As := [.int (iI r10)]) (rest := []) (q0 := 0) (X2 := (wF g aF (aH 0) (aP 0) (aT 0) (aC 0) (aB 0) (aQ 0) (aU 0) (aV 0) (aS 0) (aR 0) sF ++ (wH g aH sH ++ (wP g aP sP ++ (wT g aT r8 ++ (wC g aC (aK 0) rr sC ++ (wS g aK sK ++ (wB g aB sB ++ (wT g aQ r1.2 ++ (wT g aU sU ++ (wT g aV sV ++ (wS g aS sS ++ wS g aR sR)))))))))))) C Z fr_FHPTCKBQUVSR_3 (k_X5_placeCode l g n aT r8 r10 r17 hr17) gX6_end_X5_placeCode yk_X5_placeCode ⟨Nat.le_of_ble_eq_true rfl, Nat.le_of_ble_eq_true rfl⟩ rfl rfl ⟨Nat.zero_le _, Nat.zero_le _⟩ hl.1 rfl (Nat.le_of_ble_eq_true rfl) rfl dX6_end_43 (fun H locs Z => ?_)
      have h19 := Option.some.inj h18
      subst h19
      exact hRet _ _ _ _ Z dX6_end_46
    · have h16 := if_p h13 c14
      clear h13
      refine x_bipush C dX6_end_33 (by decide) ?_
      refine lv_goto (tgt := 46) C.1 C.2.1 dX6_end_35 (by decide) ?_
      have h20 := Option.some.inj h16
      subst h20
      exact hRet _ _ _ _ Z dX6_end_46
  · have h7 := if_p h4 c5
    clear h4
    refine x_bipush C dX6_end_7 (by decide) ?_
    have h21 := Option.some.inj h7
    subst h21
    exact hRet _ _ _ _ Z dX6_end_9
abbrev rmX6_matches : Room := { frames := 4, cells := 0, slots := 0, locals := 89 }
theorem yk_X6_matches : xY yX6_matches RX6 cX6_matches 4 (some .int) wsX6_matches rmX6_matches 1 := ⟨⟨_, rfl⟩, by decide +kernel, rfl, rfl⟩
theorem i_X2_X6_matches : ∀ w ∈ u_ws RX2 TX2 5, w ∈ wsX6_matches := fun _ h => List.mem_cons_of_mem _ (List.mem_append_left _ (List.mem_append_right _ h))
theorem i_X3_X6_matches : ∀ w ∈ u_ws RX3 TX3 2, w ∈ wsX6_matches := fun _ h => List.mem_cons_of_mem _ (List.mem_append_left _ (List.mem_append_left _ (List.mem_append_left _ (List.mem_append_right _ h))))
theorem i_X4_X6_matches : ∀ w ∈ u_ws RX4 TX4 1, w ∈ wsX6_matches := fun _ h => List.mem_cons_of_mem _ (List.mem_append_right _ h)
theorem i_X5_X6_matches : ∀ w ∈ u_ws RX5 TX5 8, w ∈ wsX6_matches := fun _ h => List.mem_cons_of_mem _ (List.mem_append_left _ (List.mem_append_left _ (List.mem_append_right _ h)))
theorem i_X6_X6_matches : ∀ w ∈ u_ws RX6 TX6 11, w ∈ wsX6_matches := fun _ h => List.mem_cons_of_mem _ (List.mem_append_left _ (List.mem_append_left _ (List.mem_append_left _ (List.mem_append_left _ (List.mem_append_right _ h)))))
set_option maxHeartbeats 4000000 in
set_option maxRecDepth 100000 in
theorem k_X6_matches (l : Launch) (g : xG) (n : Nat) (aF : Nat → Nat) (aH : Nat → Nat) (aP : Nat → Nat) (aT : Nat → Nat) (aC : Nat → Nat) (aK : Nat → Nat) (aB : Nat → Nat) (aQ : Nat → Nat) (aU : Nat → Nat) (aV : Nat → Nat) (aS : Nat → Nat) (aR : Nat → Nat) (rr : Nat → Nat) (sF : Int) (sH : HisS) (sP : PadS) (sT : TxtS) (sC : ClsS) (sK : SwpS) (sB : BegS) (sQ : TxtS) (sU : TxtS) (sV : TxtS) (sS : SwpS) (sR : SwpS) (v1 : Int) (r : Int × TxtS × TxtS × SwpS) (hf : p_X6_matches n sF sH sP sT sQ sS v1 = some r) : xMi l yX6_matches wsX6_matches rmX6_matches g [.ref (aF 0), .int (iI v1)] ((wF g aF (aH 0) (aP 0) (aT 0) (aC 0) (aB 0) (aQ 0) (aU 0) (aV 0) (aS 0) (aR 0) sF ++ (wH g aH sH ++ (wP g aP sP ++ (wT g aT sT ++ (wC g aC (aK 0) rr sC ++ (wS g aK sK ++ (wB g aB sB ++ (wT g aQ sQ ++ (wT g aU sU ++ (wT g aV sV ++ (wS g aS sS ++ wS g aR sR))))))))))) ++ wR g rr sC.classOf) ((wF g aF (aH 0) (aP 0) (aT 0) (aC 0) (aB 0) (aQ 0) (aU 0) (aV 0) (aS 0) (aR 0) sF ++ (wH g aH sH ++ (wP g aP sP ++ (wT g aT r.2.1 ++ (wC g aC (aK 0) rr sC ++ (wS g aK sK ++ (wB g aB sB ++ (wT g aQ r.2.2.1 ++ (wT g aU sU ++ (wT g aV sV ++ (wS g aS r.2.2.2 ++ wS g aR sR))))))))))) ++ wR g rr sC.classOf) r.1 := by
  refine x_ofW_i (own := RX6) (by decide) rfl rfl (Nat.le_of_ble_eq_true rfl) ?_
  intro p e s m args below meth c ls A QQ C hRet Z hl
  have hl : lv_has ls 4 [(0, .ref (aF 0)), (1, .int (iI v1))] := hl
  unfold p_X6_matches at hf
  refine lv_aload_n C.1 C.2.1 dX6_matches_0 rfl (lv_at hl 0 rfl) ?_
  obtain ⟨r1, hr1, h2⟩ := bd_some hf
  clear hf
  refine x_callV_i_id (As := []) (rest := []) (q0 := 0) C Z (k_X6_readPattern l g n aF aH aP aT aC aK aB aQ aU aV aS aR rr sF sH sP sT sC sK sB sQ sU sV sS sR r1 hr1) gX6_matches_X6_readPattern yk_X6_readPattern ⟨Nat.le_of_ble_eq_true rfl, Nat.le_of_ble_eq_true rfl⟩ rfl rfl ⟨Nat.zero_le _, Nat.zero_le _⟩ hl.1 rfl (Nat.le_of_ble_eq_true rfl) rfl dX6_matches_1 (fun H locs Z => ?_)
  have q3 := (ck_some h2).1
  have h4 := (ck_some h2).2
  clear h2
  refine x_if_ne (tgt := 10) C dX6_matches_4 (by decide) q3 (fun c5 => ?_) (fun c5 => ?_)
  · have h6 := if_n h4 c5
    clear h4
    refine lv_iload_n C.1 C.2.1 dX6_matches_10 rfl (lv_at hl 1 rfl) ?_
    refine x_iconst C dX6_matches_11 ?_
    have q8 := (ck_some h6).1
    have h9 := (ck_some h6).2
    clear h6
    refine x_icmp_lt (tgt := 26) C dX6_matches_12 (by decide) q8 (by decide) (fun c10 => ?_) (fun c10 => ?_)
    · have h11 := if_p h9 c10
      clear h9
      refine x_bipush C dX6_matches_26 (by decide) ?_
      have h13 := Option.some.inj h11
      subst h13
      exact hRet _ _ _ _ Z dX6_matches_28
    · have h12 := if_n h9 c10
      clear h9
      refine lv_iload_n C.1 C.2.1 dX6_matches_15 rfl (lv_at hl 1 rfl) ?_
      refine lv_aload_n C.1 C.2.1 dX6_matches_16 rfl (lv_at hl 0 rfl) ?_
      refine x_get C Z 0 rfl rfl i_X6_X6_matches (k := 5) (by decide) (List.mem_of_getElem? (i := 1) rfl) rfl dX6_matches_17 ?_
      obtain ⟨r14, hr14, h15⟩ := bd_some h12
      clear h12
      refine x_callV_i_Q (As := []) (rest := [.int (iI v1)]) (q0 := 0) (X2 := (wF g aF (aH 0) (aP 0) (aT 0) (aC 0) (aB 0) (aQ 0) (aU 0) (aV 0) (aS 0) (aR 0) sF ++ (wH g aH sH ++ (wP g aP sP ++ (wT g aT sT ++ (wC g aC (aK 0) rr sC ++ (wS g aK sK ++ (wB g aB sB ++ (wT g aQ r1.2 ++ (wT g aU sU ++ (wT g aV sV ++ (wS g aS sS ++ wS g aR sR)))))))))))) C Z fr_FHPTCKBQUVSR_7 (k_X5_length l g n aQ r1.2 r14 hr14) gX6_matches_X5_length yk_X5_length ⟨Nat.le_of_ble_eq_true rfl, Nat.le_of_ble_eq_true rfl⟩ rfl rfl ⟨Nat.zero_le _, Nat.zero_le _⟩ hl.1 rfl (Nat.le_of_ble_eq_true rfl) rfl dX6_matches_20 (fun H locs Z => ?_)
      have q16 := (ck_some h15).1
      have h17 := (ck_some h15).2
      clear h15
      refine x_icmp_le (tgt := 29) C dX6_matches_23 (by decide) q8 q16 (fun c18 => ?_) (fun c18 => ?_)
      · have h19 := if_n h17 c18
        clear h17
        refine lv_aload_n C.1 C.2.1 dX6_matches_29 rfl (lv_at hl 0 rfl) ?_
        obtain ⟨r21, hr21, h22⟩ := bd_some h19
        clear h19
        refine x_callV_v_id (As := []) (rest := []) (q0 := 0) C Z (k_X6_showPresent l g n aF aH aP aT aC aK aB aQ aU aV aS aR rr sF sH sP sT sC sK sB r1.2 sU sV sS sR r21 hr21) gX6_matches_X6_showPresent yk_X6_showPresent ⟨Nat.le_of_ble_eq_true rfl, Nat.le_of_ble_eq_true rfl⟩ rfl rfl ⟨Nat.zero_le _, Nat.zero_le _⟩ hl.1 rfl (Nat.le_of_ble_eq_true rfl) rfl dX6_matches_30 (fun H locs Z => ?_)
        refine x_iconst C dX6_matches_33 ?_
        refine lv_istore_n (lv' := [(2, .int (iI 0)), (0, .ref (aF 0)), (1, .int (iI v1))]) C.1 C.2.1 dX6_matches_34 rfl hl (by decide) rfl (fun ls hl => ?_)
        refine x_iconst C dX6_matches_35 ?_
        refine lv_istore_n (lv' := [(3, .int (iI 0)), (2, .int (iI 0)), (0, .ref (aF 0)), (1, .int (iI v1))]) C.1 C.2.1 dX6_matches_36 rfl hl (by decide) rfl (fun ls hl => ?_)
        obtain ⟨ex37, hl37, h47⟩ := bd_some h22
        clear h22
        have hK37 : ∀ (H : Heap) (locs : List Loc) (ls : Array Slot), xSt g A s ((wF g aF (aH 0) (aP 0) (aT 0) (aC 0) (aB 0) (aQ 0) (aU 0) (aV 0) (aS 0) (aR 0) sF ++ (wH g aH sH ++ (wP g aP sP ++ (wT g aT r21 ++ (wC g aC (aK 0) rr sC ++ (wS g aK sK ++ (wB g aB sB ++ (wT g aQ r1.2 ++ (wT g aU sU ++ (wT g aV sV ++ (wS g aS ex37.2 ++ wS g aR sR))))))))))) ++ wR g rr sC.classOf) H locs → lv_has ls 4 [(2, .int (iI ex37.1))] → W p l e rmX6_matches s m args below meth c H locs 0 0 QQ (F0 m 72 ls []) := by
          intro H locs ls Z hl
          have h48 := h47
          clear h47
          refine lv_iload_n C.1 C.2.1 dX6_matches_72 rfl (lv_at hl 0 rfl) ?_
          have h49 := Option.some.inj h48
          subst h49
          exact hRet _ _ _ _ Z dX6_matches_73
        have hL37 : ∀ (k37 : Nat) (z37 : Int × Int × SwpS) (H : Heap) (locs : List Loc) (ls : Array Slot), lp (p_X6_matches_b37 n r21 r1.2 v1) k37 z37 = some ex37 → xSt g A s ((wF g aF (aH 0) (aP 0) (aT 0) (aC 0) (aB 0) (aQ 0) (aU 0) (aV 0) (aS 0) (aR 0) sF ++ (wH g aH sH ++ (wP g aP sP ++ (wT g aT r21 ++ (wC g aC (aK 0) rr sC ++ (wS g aK sK ++ (wB g aB sB ++ (wT g aQ r1.2 ++ (wT g aU sU ++ (wT g aV sV ++ (wS g aS z37.2.2 ++ wS g aR sR))))))))))) ++ wR g rr sC.classOf) H locs → lv_has ls 4 [(0, .ref (aF 0)), (1, .int (iI v1)), (2, .int (iI z37.1)), (3, .int (iI z37.2.1))] → W p l e rmX6_matches s m args below meth c H locs 0 0 QQ (F0 m 37 ls []) := by
          intro k37
          induction k37 with
          | zero => intro z37 H locs ls h; exact (lp_0 h).elim
          | succ k37 ih37 =>
            intro z37 H locs ls h Z hl
            obtain ⟨x37, hb37, hx37⟩ := lp_s h
            clear h
            unfold p_X6_matches_b37 at hb37
            refine lv_iload_n C.1 C.2.1 dX6_matches_37 rfl (lv_at hl 3 rfl) ?_
            refine lv_iload_n C.1 C.2.1 dX6_matches_38 rfl (lv_at hl 1 rfl) ?_
            have q35 := (ck_some hb37).1
            have h36 := (ck_some hb37).2
            clear hb37
            have q37 := (ck_some h36).1
            have h38 := (ck_some h36).2
            clear h36
            refine x_icmp_ge (tgt := 72) C dX6_matches_39 (by decide) q35 q37 (fun c39 => ?_) (fun c39 => ?_)
            · have h40 := if_n h38 c39
              clear h38
              cases h40
              have h42 := lp_R hx37
              subst h42
              exact hK37 _ _ _ Z (lv_sub hl [2] rfl)
            · have h41 := if_p h38 c39
              clear h38
              refine lv_aload_n C.1 C.2.1 dX6_matches_42 rfl (lv_at hl 0 rfl) ?_
              refine x_get C Z 0 rfl rfl i_X6_X6_matches (k := 8) (by decide) (List.mem_of_getElem? (i := 2) rfl) rfl dX6_matches_43 ?_
              refine lv_aload_n C.1 C.2.1 dX6_matches_46 rfl (lv_at hl 0 rfl) ?_
              refine x_get C Z 0 rfl rfl i_X6_X6_matches (k := 5) (by decide) (List.mem_of_getElem? (i := 1) rfl) rfl dX6_matches_47 ?_
              refine lv_iload_n C.1 C.2.1 dX6_matches_50 rfl (lv_at hl 3 rfl) ?_
              refine lv_aload_n C.1 C.2.1 dX6_matches_51 rfl (lv_at hl 0 rfl) ?_
              refine x_get C Z 0 rfl rfl i_X6_X6_matches (k := 2) (by decide) (List.mem_of_getElem? (i := 3) rfl) rfl dX6_matches_52 ?_
              refine lv_aload_n C.1 C.2.1 dX6_matches_55 rfl (lv_at hl 0 rfl) ?_
              refine x_get C Z 0 rfl rfl i_X6_X6_matches (k := 2) (by decide) (List.mem_of_getElem? (i := 3) rfl) rfl dX6_matches_56 ?_
              obtain ⟨r43, hr43, h44⟩ := bd_some h41
              clear h41
              refine x_callV_i_Q (As := []) (rest := [.ref (aT 0), .int (iI z37.2.1), .ref (aQ 0), .ref (aS 0)]) (q0 := 0) (X2 := (wF g aF (aH 0) (aP 0) (aT 0) (aC 0) (aB 0) (aQ 0) (aU 0) (aV 0) (aS 0) (aR 0) sF ++ (wH g aH sH ++ (wP g aP sP ++ (wT g aT r21 ++ (wC g aC (aK 0) rr sC ++ (wS g aK sK ++ (wB g aB sB ++ (wT g aQ r1.2 ++ (wT g aU sU ++ (wT g aV sV ++ (wS g aS z37.2.2 ++ wS g aR sR)))))))))))) C Z fr_FHPTCKBQUVSR_3 (k_X5_length l g n aT r21 r43 hr43) gX6_matches_X5_length yk_X5_length ⟨Nat.le_of_ble_eq_true rfl, Nat.le_of_ble_eq_true rfl⟩ rfl rfl ⟨Nat.zero_le _, Nat.zero_le _⟩ hl.1 rfl (Nat.le_of_ble_eq_true rfl) rfl dX6_matches_59 (fun H locs Z => ?_)
              obtain ⟨r45, hr45, h46⟩ := bd_some h44
              clear h44
              refine x_callV_i_Q (As := [.ref (aQ 0), .int (iI z37.2.1), .ref (aT 0), .int (iI r43)]) (rest := []) (q0 := 0) (X2 := (wF g aF (aH 0) (aP 0) (aT 0) (aC 0) (aB 0) (aQ 0) (aU 0) (aV 0) (aS 0) (aR 0) sF ++ (wH g aH sH ++ (wP g aP sP ++ (wT g aT r21 ++ (wC g aC (aK 0) rr sC ++ (wS g aK sK ++ (wB g aB sB ++ (wT g aQ r1.2 ++ (wT g aU sU ++ (wT g aV sV ++ (wS g aS r45.2 ++ wS g aR sR)))))))))))) C Z fr_FHPTCKBQUVSR_10_7_3 (k_X4_advancen l g n aS aQ aT z37.2.2 r1.2 r21 z37.2.1 r43 r45 hr45) gX6_matches_X4_advance yk_X4_advancen ⟨Nat.le_of_ble_eq_true rfl, Nat.le_of_ble_eq_true rfl⟩ rfl rfl ⟨Nat.zero_le _, Nat.zero_le _⟩ hl.1 rfl (Nat.le_of_ble_eq_true rfl) rfl dX6_matches_62 (fun H locs Z => ?_)
              refine lv_istore_n (lv' := [(2, .int (iI r45.1)), (0, .ref (aF 0)), (1, .int (iI v1)), (3, .int (iI z37.2.1))]) C.1 C.2.1 dX6_matches_65 rfl hl (by decide) rfl (fun ls hl => ?_)
              refine x_iinc (lv' := [(3, .int (iI (z37.2.1 + 1))), (2, .int (iI r45.1)), (0, .ref (aF 0)), (1, .int (iI v1))]) C dX6_matches_66 hl (k := 3) rfl (by decide) rfl (fun ls hl => ?_)
              refine lv_goto (tgt := 37) C.1 C.2.1 dX6_matches_69 (by decide) ?_
              cases h46
              exact ih37 (r45.1, z37.2.1 + 1, r45.2) _ _ _ (lp_L2 hx37) Z (lv_sub hl [2, 3, 1, 0] rfl)
        exact hL37 n (0, 0, sS) _ _ _ hl37 Z (lv_sub hl [2, 3, 1, 0] rfl)
      · have h20 := if_p h17 c18
        clear h17
        refine x_bipush C dX6_matches_26 (by decide) ?_
        have h50 := Option.some.inj h20
        subst h50
        exact hRet _ _ _ _ Z dX6_matches_28
  · have h7 := if_p h4 c5
    clear h4
    refine x_bipush C dX6_matches_7 (by decide) ?_
    have h51 := Option.some.inj h7
    subst h51
    exact hRet _ _ _ _ Z dX6_matches_9
abbrev rmX6_parts : Room := { frames := 4, cells := 0, slots := 0, locals := 89 }
theorem yk_X6_parts : xY yX6_parts RX6 cX6_parts 5 (some .int) wsX6_parts rmX6_parts 0 := ⟨⟨_, rfl⟩, by decide +kernel, rfl, rfl⟩
theorem i_X2_X6_parts : ∀ w ∈ u_ws RX2 TX2 5, w ∈ wsX6_parts := fun _ h => List.mem_cons_of_mem _ (List.mem_append_left _ (List.mem_append_right _ h))
theorem i_X3_X6_parts : ∀ w ∈ u_ws RX3 TX3 2, w ∈ wsX6_parts := fun _ h => List.mem_cons_of_mem _ (List.mem_append_left _ (List.mem_append_left _ (List.mem_append_left _ (List.mem_append_right _ h))))
theorem i_X4_X6_parts : ∀ w ∈ u_ws RX4 TX4 1, w ∈ wsX6_parts := fun _ h => List.mem_cons_of_mem _ (List.mem_append_right _ h)
theorem i_X5_X6_parts : ∀ w ∈ u_ws RX5 TX5 8, w ∈ wsX6_parts := fun _ h => List.mem_cons_of_mem _ (List.mem_append_left _ (List.mem_append_left _ (List.mem_append_right _ h)))
theorem i_X6_X6_parts : ∀ w ∈ u_ws RX6 TX6 11, w ∈ wsX6_parts := fun _ h => List.mem_cons_of_mem _ (List.mem_append_left _ (List.mem_append_left _ (List.mem_append_left _ (List.mem_append_left _ (List.mem_append_right _ h)))))
set_option maxHeartbeats 4000000 in
set_option maxRecDepth 100000 in
theorem k_X6_parts (l : Launch) (g : xG) (n : Nat) (aF : Nat → Nat) (aH : Nat → Nat) (aP : Nat → Nat) (aT : Nat → Nat) (aC : Nat → Nat) (aK : Nat → Nat) (aB : Nat → Nat) (aQ : Nat → Nat) (aU : Nat → Nat) (aV : Nat → Nat) (aS : Nat → Nat) (aR : Nat → Nat) (rr : Nat → Nat) (sF : Int) (sH : HisS) (sP : PadS) (sT : TxtS) (sC : ClsS) (sK : SwpS) (sB : BegS) (sQ : TxtS) (sU : TxtS) (sV : TxtS) (sS : SwpS) (sR : SwpS) (r : Int × TxtS × TxtS × SwpS) (hf : p_X6_parts n sF sH sP sT sQ sS = some r) : xMi l yX6_parts wsX6_parts rmX6_parts g [.ref (aF 0)] ((wF g aF (aH 0) (aP 0) (aT 0) (aC 0) (aB 0) (aQ 0) (aU 0) (aV 0) (aS 0) (aR 0) sF ++ (wH g aH sH ++ (wP g aP sP ++ (wT g aT sT ++ (wC g aC (aK 0) rr sC ++ (wS g aK sK ++ (wB g aB sB ++ (wT g aQ sQ ++ (wT g aU sU ++ (wT g aV sV ++ (wS g aS sS ++ wS g aR sR))))))))))) ++ wR g rr sC.classOf) ((wF g aF (aH 0) (aP 0) (aT 0) (aC 0) (aB 0) (aQ 0) (aU 0) (aV 0) (aS 0) (aR 0) sF ++ (wH g aH sH ++ (wP g aP sP ++ (wT g aT r.2.1 ++ (wC g aC (aK 0) rr sC ++ (wS g aK sK ++ (wB g aB sB ++ (wT g aQ r.2.2.1 ++ (wT g aU sU ++ (wT g aV sV ++ (wS g aS r.2.2.2 ++ wS g aR sR))))))))))) ++ wR g rr sC.classOf) r.1 := by
  refine x_ofW_i (own := RX6) (by decide) rfl rfl (Nat.le_of_ble_eq_true rfl) ?_
  intro p e s m args below meth c ls A QQ C hRet Z hl
  have hl : lv_has ls 5 [(0, .ref (aF 0))] := hl
  unfold p_X6_parts at hf
  refine lv_aload_n C.1 C.2.1 dX6_parts_0 rfl (lv_at hl 0 rfl) ?_
  obtain ⟨r1, hr1, h2⟩ := bd_some hf
  clear hf
  refine x_callV_i_id (As := []) (rest := []) (q0 := 0) C Z (k_X6_readPattern l g n aF aH aP aT aC aK aB aQ aU aV aS aR rr sF sH sP sT sC sK sB sQ sU sV sS sR r1 hr1) gX6_parts_X6_readPattern yk_X6_readPattern ⟨Nat.le_of_ble_eq_true rfl, Nat.le_of_ble_eq_true rfl⟩ rfl rfl ⟨Nat.zero_le _, Nat.zero_le _⟩ hl.1 rfl (Nat.le_of_ble_eq_true rfl) rfl dX6_parts_1 (fun H locs Z => ?_)
  have q3 := (ck_some h2).1
  have h4 := (ck_some h2).2
  clear h2
  refine x_if_ne (tgt := 10) C dX6_parts_4 (by decide) q3 (fun c5 => ?_) (fun c5 => ?_)
  · have h6 := if_n h4 c5
    clear h4
    refine lv_aload_n C.1 C.2.1 dX6_parts_10 rfl (lv_at hl 0 rfl) ?_
    obtain ⟨r8, hr8, h9⟩ := bd_some h6
    clear h6
    refine x_callV_v_id (As := []) (rest := []) (q0 := 0) C Z (k_X6_showPresent l g n aF aH aP aT aC aK aB aQ aU aV aS aR rr sF sH sP sT sC sK sB r1.2 sU sV sS sR r8 hr8) gX6_parts_X6_showPresent yk_X6_showPresent ⟨Nat.le_of_ble_eq_true rfl, Nat.le_of_ble_eq_true rfl⟩ rfl rfl ⟨Nat.zero_le _, Nat.zero_le _⟩ hl.1 rfl (Nat.le_of_ble_eq_true rfl) rfl dX6_parts_11 (fun H locs Z => ?_)
    refine x_iconst C dX6_parts_14 ?_
    refine lv_istore_n (lv' := [(1, .int (iI 1)), (0, .ref (aF 0))]) C.1 C.2.1 dX6_parts_15 rfl hl (by decide) rfl (fun ls hl => ?_)
    refine x_iconst C dX6_parts_16 ?_
    refine lv_istore_n (lv' := [(2, .int (iI 0)), (1, .int (iI 1)), (0, .ref (aF 0))]) C.1 C.2.1 dX6_parts_17 rfl hl (by decide) rfl (fun ls hl => ?_)
    refine x_iconst C dX6_parts_18 ?_
    refine lv_istore_n (lv' := [(3, .int (iI 0)), (2, .int (iI 0)), (1, .int (iI 1)), (0, .ref (aF 0))]) C.1 C.2.1 dX6_parts_19 rfl hl (by decide) rfl (fun ls hl => ?_)
    obtain ⟨ex20, hl20, h62⟩ := bd_some h9
    clear h9
    have hK20 : ∀ (e20 : Int × SwpS) (H : Heap) (locs : List Loc) (ls : Array Slot), ex20 = .inr e20 → xSt g A s ((wF g aF (aH 0) (aP 0) (aT 0) (aC 0) (aB 0) (aQ 0) (aU 0) (aV 0) (aS 0) (aR 0) sF ++ (wH g aH sH ++ (wP g aP sP ++ (wT g aT r8 ++ (wC g aC (aK 0) rr sC ++ (wS g aK sK ++ (wB g aB sB ++ (wT g aQ r1.2 ++ (wT g aU sU ++ (wT g aV sV ++ (wS g aS e20.2 ++ wS g aR sR))))))))))) ++ wR g rr sC.classOf) H locs → lv_has ls 5 [(1, .int (iI e20.1))] → W p l e rmX6_parts s m args below meth c H locs 0 0 QQ (F0 m 85 ls []) := by
      intro e20 H locs ls he Z hl
      subst he
      have h63 := (Sum.elim_inr ..).symm.trans h62
      clear h62
      refine lv_iload_n C.1 C.2.1 dX6_parts_85 rfl (lv_at hl 0 rfl) ?_
      have h64 := Option.some.inj h63
      subst h64
      exact hRet _ _ _ _ Z dX6_parts_86
    have hL20 : ∀ (k20 : Nat) (z20 : Int × Int × Int × SwpS) (H : Heap) (locs : List Loc) (ls : Array Slot), lp (p_X6_parts_b20 n r8 r1.2) k20 z20 = some ex20 → xSt g A s ((wF g aF (aH 0) (aP 0) (aT 0) (aC 0) (aB 0) (aQ 0) (aU 0) (aV 0) (aS 0) (aR 0) sF ++ (wH g aH sH ++ (wP g aP sP ++ (wT g aT r8 ++ (wC g aC (aK 0) rr sC ++ (wS g aK sK ++ (wB g aB sB ++ (wT g aQ r1.2 ++ (wT g aU sU ++ (wT g aV sV ++ (wS g aS z20.2.2.2 ++ wS g aR sR))))))))))) ++ wR g rr sC.classOf) H locs → lv_has ls 5 [(0, .ref (aF 0)), (1, .int (iI z20.1)), (2, .int (iI z20.2.1)), (3, .int (iI z20.2.2.1))] → W p l e rmX6_parts s m args below meth c H locs 0 0 QQ (F0 m 20 ls []) := by
      intro k20
      induction k20 with
      | zero => intro z20 H locs ls h; exact (lp_0 h).elim
      | succ k20 ih20 =>
        intro z20 H locs ls h Z hl
        obtain ⟨x20, hb20, hx20⟩ := lp_s h
        clear h
        unfold p_X6_parts_b20 at hb20
        refine lv_iload_n C.1 C.2.1 dX6_parts_20 rfl (lv_at hl 3 rfl) ?_
        refine lv_aload_n C.1 C.2.1 dX6_parts_21 rfl (lv_at hl 0 rfl) ?_
        refine x_get C Z 0 rfl rfl i_X6_X6_parts (k := 5) (by decide) (List.mem_of_getElem? (i := 1) rfl) rfl dX6_parts_22 ?_
        obtain ⟨r36, hr36, h37⟩ := bd_some hb20
        clear hb20
        refine x_callV_i_Q (As := []) (rest := [.int (iI z20.2.2.1)]) (q0 := 0) (X2 := (wF g aF (aH 0) (aP 0) (aT 0) (aC 0) (aB 0) (aQ 0) (aU 0) (aV 0) (aS 0) (aR 0) sF ++ (wH g aH sH ++ (wP g aP sP ++ (wT g aT r8 ++ (wC g aC (aK 0) rr sC ++ (wS g aK sK ++ (wB g aB sB ++ (wT g aQ r1.2 ++ (wT g aU sU ++ (wT g aV sV ++ (wS g aS z20.2.2.2 ++ wS g aR sR)))))))))))) C Z fr_FHPTCKBQUVSR_7 (k_X5_length l g n aQ r1.2 r36 hr36) gX6_parts_X5_length yk_X5_length ⟨Nat.le_of_ble_eq_true rfl, Nat.le_of_ble_eq_true rfl⟩ rfl rfl ⟨Nat.zero_le _, Nat.zero_le _⟩ hl.1 rfl (Nat.le_of_ble_eq_true rfl) rfl dX6_parts_25 (fun H locs Z => ?_)
        have q38 := (ck_some h37).1
        have h39 := (ck_some h37).2
        clear h37
        have q40 := (ck_some h39).1
        have h41 := (ck_some h39).2
        clear h39
        refine x_icmp_ge (tgt := 85) C dX6_parts_28 (by decide) q38 q40 (fun c42 => ?_) (fun c42 => ?_)
        · have h43 := if_n h41 c42
          clear h41
          cases h43
          exact hK20 (z20.1, z20.2.2.2) _ _ _ (lp_R hx20).symm Z (lv_sub hl [1] rfl)
        · have h44 := if_p h41 c42
          clear h41
          refine lv_aload_n C.1 C.2.1 dX6_parts_31 rfl (lv_at hl 0 rfl) ?_
          refine x_get C Z 0 rfl rfl i_X6_X6_parts (k := 8) (by decide) (List.mem_of_getElem? (i := 2) rfl) rfl dX6_parts_32 ?_
          refine lv_aload_n C.1 C.2.1 dX6_parts_35 rfl (lv_at hl 0 rfl) ?_
          refine x_get C Z 0 rfl rfl i_X6_X6_parts (k := 5) (by decide) (List.mem_of_getElem? (i := 1) rfl) rfl dX6_parts_36 ?_
          refine lv_iload_n C.1 C.2.1 dX6_parts_39 rfl (lv_at hl 3 rfl) ?_
          refine lv_aload_n C.1 C.2.1 dX6_parts_40 rfl (lv_at hl 0 rfl) ?_
          refine x_get C Z 0 rfl rfl i_X6_X6_parts (k := 2) (by decide) (List.mem_of_getElem? (i := 3) rfl) rfl dX6_parts_41 ?_
          refine lv_aload_n C.1 C.2.1 dX6_parts_44 rfl (lv_at hl 0 rfl) ?_
          refine x_get C Z 0 rfl rfl i_X6_X6_parts (k := 2) (by decide) (List.mem_of_getElem? (i := 3) rfl) rfl dX6_parts_45 ?_
          obtain ⟨r45, hr45, h46⟩ := bd_some h44
          clear h44
          refine x_callV_i_Q (As := []) (rest := [.ref (aT 0), .int (iI z20.2.2.1), .ref (aQ 0), .ref (aS 0)]) (q0 := 0) (X2 := (wF g aF (aH 0) (aP 0) (aT 0) (aC 0) (aB 0) (aQ 0) (aU 0) (aV 0) (aS 0) (aR 0) sF ++ (wH g aH sH ++ (wP g aP sP ++ (wT g aT r8 ++ (wC g aC (aK 0) rr sC ++ (wS g aK sK ++ (wB g aB sB ++ (wT g aQ r1.2 ++ (wT g aU sU ++ (wT g aV sV ++ (wS g aS z20.2.2.2 ++ wS g aR sR)))))))))))) C Z fr_FHPTCKBQUVSR_3 (k_X5_length l g n aT r8 r45 hr45) gX6_parts_X5_length yk_X5_length ⟨Nat.le_of_ble_eq_true rfl, Nat.le_of_ble_eq_true rfl⟩ rfl rfl ⟨Nat.zero_le _, Nat.zero_le _⟩ hl.1 rfl (Nat.le_of_ble_eq_true rfl) rfl dX6_parts_48 (fun H locs Z => ?_)
          obtain ⟨r47, hr47, h48⟩ := bd_some h46
          clear h46
          refine x_callV_i_Q (As := [.ref (aQ 0), .int (iI z20.2.2.1), .ref (aT 0), .int (iI r45)]) (rest := []) (q0 := 0) (X2 := (wF g aF (aH 0) (aP 0) (aT 0) (aC 0) (aB 0) (aQ 0) (aU 0) (aV 0) (aS 0) (aR 0) sF ++ (wH g aH sH ++ (wP g aP sP ++ (wT g aT r8 ++ (wC g aC (aK 0) rr sC ++ (wS g aK sK ++ (wB g aB sB ++ (wT g aQ r1.2 ++ (wT g aU sU ++ (wT g aV sV ++ (wS g aS r47.2 ++ wS g aR sR)))))))))))) C Z fr_FHPTCKBQUVSR_10_7_3 (k_X4_advancen l g n aS aQ aT z20.2.2.2 r1.2 r8 z20.2.2.1 r45 r47 hr47) gX6_parts_X4_advance yk_X4_advancen ⟨Nat.le_of_ble_eq_true rfl, Nat.le_of_ble_eq_true rfl⟩ rfl rfl ⟨Nat.zero_le _, Nat.zero_le _⟩ hl.1 rfl (Nat.le_of_ble_eq_true rfl) rfl dX6_parts_51 (fun H locs Z => ?_)
          refine lv_istore (lv' := [(4, .int (iI r47.1)), (0, .ref (aF 0)), (1, .int (iI z20.1)), (2, .int (iI z20.2.1)), (3, .int (iI z20.2.2.1))]) C.1 C.2.1 dX6_parts_54 hl (by decide) rfl (fun ls hl => ?_)
          refine lv_iload C.1 C.2.1 dX6_parts_56 (lv_at hl 0 rfl) ?_
          have q49 := (ck_some h48).1
          have h50 := (ck_some h48).2
          clear h48
          refine x_if_ne (tgt := 64) C dX6_parts_58 (by decide) q49 (fun c51 => ?_) (fun c51 => ?_)
          · have h52 := if_n h50 c51
            clear h50
            refine lv_iload C.1 C.2.1 dX6_parts_64 (lv_at hl 0 rfl) ?_
            refine lv_iload_n C.1 C.2.1 dX6_parts_66 rfl (lv_at hl 4 rfl) ?_
            refine lv_iload_n C.1 C.2.1 dX6_parts_67 rfl (lv_at hl 3 rfl) ?_
            refine x_isub C dX6_parts_68 ?_
            refine x_iconst C dX6_parts_69 ?_
            refine x_iadd C dX6_parts_70 ?_
            have q54 := (ck_some h52).1
            have h55 := (ck_some h52).2
            clear h52
            refine x_icmp_ge (tgt := 79) C dX6_parts_71 (by decide) q49 q54 (fun c56 => ?_) (fun c56 => ?_)
            · have h57 := if_n h55 c56
              clear h55
              refine x_iinc (lv' := [(3, .int (iI (z20.2.2.1 + 1))), (4, .int (iI r47.1)), (0, .ref (aF 0)), (1, .int (iI z20.1)), (2, .int (iI z20.2.1))]) C dX6_parts_79 hl (k := 4) rfl (by decide) rfl (fun ls hl => ?_)
              refine lv_goto (tgt := 20) C.1 C.2.1 dX6_parts_82 (by decide) ?_
              cases h57
              exact ih20 (z20.1, z20.2.1, z20.2.2.1 + 1, r47.2) _ _ _ (lp_L2 hx20) Z (lv_sub hl [2, 3, 4, 0] rfl)
            · have h58 := if_p h55 c56
              clear h55
              refine x_iinc (lv' := [(1, .int (iI (z20.1 + 1))), (4, .int (iI r47.1)), (0, .ref (aF 0)), (2, .int (iI z20.2.1)), (3, .int (iI z20.2.2.1))]) C dX6_parts_74 hl (k := 2) rfl (by decide) rfl (fun ls hl => ?_)
              refine lv_iload_n C.1 C.2.1 dX6_parts_77 rfl (lv_at hl 4 rfl) ?_
              refine lv_istore_n (lv' := [(2, .int (iI z20.2.2.1)), (1, .int (iI (z20.1 + 1))), (4, .int (iI r47.1)), (0, .ref (aF 0)), (3, .int (iI z20.2.2.1))]) C.1 C.2.1 dX6_parts_78 rfl hl (by decide) rfl (fun ls hl => ?_)
              refine x_iinc (lv' := [(3, .int (iI (z20.2.2.1 + 1))), (2, .int (iI z20.2.2.1)), (1, .int (iI (z20.1 + 1))), (4, .int (iI r47.1)), (0, .ref (aF 0))]) C dX6_parts_79 hl (k := 4) rfl (by decide) rfl (fun ls hl => ?_)
              refine lv_goto (tgt := 20) C.1 C.2.1 dX6_parts_82 (by decide) ?_
              cases h58
              exact ih20 (z20.1 + 1, z20.2.2.1, z20.2.2.1 + 1, r47.2) _ _ _ (lp_L2 hx20) Z (lv_sub hl [4, 2, 1, 0] rfl)
          · have h53 := if_p h50 c51
            clear h50
            refine x_bipush C dX6_parts_61 (by decide) ?_
            cases h53
            have h59 := lp_R hx20
            subst h59
            have h60 := (Sum.elim_inl ..).symm.trans h62
            have h61 := Option.some.inj h60
            subst h61
            exact hRet _ _ _ _ Z dX6_parts_63
    exact hL20 n (1, 0, 0, sS) _ _ _ hl20 Z (lv_sub hl [3, 2, 1, 0] rfl)
  · have h7 := if_p h4 c5
    clear h4
    refine x_bipush C dX6_parts_7 (by decide) ?_
    have h65 := Option.some.inj h7
    subst h65
    exact hRet _ _ _ _ Z dX6_parts_9
abbrev rmX6_isEndCount : Room := { frames := 0, cells := 0, slots := 0, locals := 0 }
theorem yk_X6_isEndCount : xY yX6_isEndCount RX6 cX6_isEndCount 1 (some .boolean) wsX6_isEndCount rmX6_isEndCount 1 := ⟨⟨_, rfl⟩, by decide +kernel, rfl, rfl⟩
set_option maxHeartbeats 4000000 in
set_option maxRecDepth 100000 in
theorem k_X6_isEndCount (l : Launch) (g : xG) (n : Nat) (v0 : Int) (r : Int) (hf : p_X6_isEndCount v0 = some r) : xMi l yX6_isEndCount wsX6_isEndCount rmX6_isEndCount g [.int (iI v0)] ([]) ([]) r := by
  refine x_ofW_z (own := RX6) (by decide) rfl rfl (Nat.le_of_ble_eq_true rfl) ?_
  intro p e s m args below meth c ls A QQ C hRet Z hl
  have hl : lv_has ls 1 [(0, .int (iI v0))] := hl
  unfold p_X6_isEndCount at hf
  refine lv_iload_n C.1 C.2.1 dX6_isEndCount_0 rfl (lv_at hl 0 rfl) ?_
  refine x_iconst C dX6_isEndCount_1 ?_
  have q1 := (ck_some hf).1
  have h2 := (ck_some hf).2
  clear hf
  refine x_icmp_lt (tgt := 15) C dX6_isEndCount_2 (by decide) q1 (by decide) (fun c3 => ?_) (fun c3 => ?_)
  · have h4 := if_p h2 c3
    clear h2
    refine x_iconst C dX6_isEndCount_15 ?_
    have h6 := Option.some.inj h4
    subst h6
    exact hRet _ _ _ _ (x_bool (Or.inl rfl)) Z dX6_isEndCount_16
  · have h5 := if_n h2 c3
    clear h2
    refine lv_iload_n C.1 C.2.1 dX6_isEndCount_5 rfl (lv_at hl 0 rfl) ?_
    refine x_bipush C dX6_isEndCount_6 (by decide) ?_
    refine x_icmp_gt (tgt := 15) C dX6_isEndCount_8 (by decide) q1 (by decide) (fun c7 => ?_) (fun c7 => ?_)
    · have h8 := if_p h5 c7
      clear h5
      refine x_iconst C dX6_isEndCount_15 ?_
      have h10 := Option.some.inj h8
      subst h10
      exact hRet _ _ _ _ (x_bool (Or.inl rfl)) Z dX6_isEndCount_16
    · have h9 := if_n h5 c7
      clear h5
      refine x_iconst C dX6_isEndCount_11 ?_
      refine lv_goto (tgt := 16) C.1 C.2.1 dX6_isEndCount_12 (by decide) ?_
      have h11 := Option.some.inj h9
      subst h11
      exact hRet _ _ _ _ (x_bool (Or.inr rfl)) Z dX6_isEndCount_16
abbrev rmX6_showClasses : Room := { frames := 5, cells := 0, slots := 0, locals := 119 }
theorem yk_X6_showClasses : xY yX6_showClasses RX6 cX6_showClasses 1 none wsX6_showClasses rmX6_showClasses 0 := ⟨⟨_, rfl⟩, by decide +kernel, rfl, rfl⟩
theorem i_X1_X6_showClasses : ∀ w ∈ u_ws RX1 TX1 13, w ∈ wsX6_showClasses := fun _ h => List.mem_cons_of_mem _ (List.mem_append_left _ (List.mem_append_right _ h))
theorem i_X2_X6_showClasses : ∀ w ∈ u_ws RX2 TX2 5, w ∈ wsX6_showClasses := fun _ h => List.mem_cons_of_mem _ (List.mem_append_left _ (List.mem_append_left _ (List.mem_append_right _ h)))
theorem i_X4_X6_showClasses : ∀ w ∈ u_ws RX4 TX4 1, w ∈ wsX6_showClasses := fun _ h => List.mem_cons_of_mem _ (List.mem_append_right _ h)
theorem i_X5_X6_showClasses : ∀ w ∈ u_ws RX5 TX5 8, w ∈ wsX6_showClasses := fun _ h => List.mem_cons_of_mem _ (List.mem_append_left _ (List.mem_append_left _ (List.mem_append_left _ (List.mem_append_right _ h))))
theorem i_X6_X6_showClasses : ∀ w ∈ u_ws RX6 TX6 11, w ∈ wsX6_showClasses := fun _ h => List.mem_cons_of_mem _ (List.mem_append_left _ (List.mem_append_left _ (List.mem_append_left _ (List.mem_append_left _ (List.mem_append_right _ h)))))
set_option maxHeartbeats 4000000 in
set_option maxRecDepth 100000 in
theorem k_X6_showClasses (l : Launch) (g : xG) (n : Nat) (aF : Nat → Nat) (aH : Nat → Nat) (aP : Nat → Nat) (aT : Nat → Nat) (aC : Nat → Nat) (aK : Nat → Nat) (aB : Nat → Nat) (aQ : Nat → Nat) (aU : Nat → Nat) (aV : Nat → Nat) (aS : Nat → Nat) (aR : Nat → Nat) (rr : Nat → Nat) (sF : Int) (sH : HisS) (sP : PadS) (sT : TxtS) (sC : ClsS) (sK : SwpS) (sB : BegS) (sQ : TxtS) (sU : TxtS) (sV : TxtS) (sS : SwpS) (sR : SwpS) (r : TxtS × ClsS × SwpS) (hf : p_X6_showClasses n sF sH sT sC sK = some r) : xMv l yX6_showClasses wsX6_showClasses rmX6_showClasses g [.ref (aF 0)] ((wF g aF (aH 0) (aP 0) (aT 0) (aC 0) (aB 0) (aQ 0) (aU 0) (aV 0) (aS 0) (aR 0) sF ++ (wH g aH sH ++ (wP g aP sP ++ (wT g aT sT ++ (wC g aC (aK 0) rr sC ++ (wS g aK sK ++ (wB g aB sB ++ (wT g aQ sQ ++ (wT g aU sU ++ (wT g aV sV ++ (wS g aS sS ++ wS g aR sR))))))))))) ++ wR g rr sC.classOf) ((wF g aF (aH 0) (aP 0) (aT 0) (aC 0) (aB 0) (aQ 0) (aU 0) (aV 0) (aS 0) (aR 0) sF ++ (wH g aH sH ++ (wP g aP sP ++ (wT g aT r.1 ++ (wC g aC (aK 0) rr r.2.1 ++ (wS g aK r.2.2 ++ (wB g aB sB ++ (wT g aQ sQ ++ (wT g aU sU ++ (wT g aV sV ++ (wS g aS sS ++ wS g aR sR))))))))))) ++ wR g rr r.2.1.classOf) := by
  refine x_ofW_v (own := RX6) (by decide) rfl rfl (Nat.le_of_ble_eq_true rfl) ?_
  intro p e s m args below meth c ls A QQ C hRet Z hl
  have hl : lv_has ls 1 [(0, .ref (aF 0))] := hl
  unfold p_X6_showClasses at hf
  refine lv_aload_n C.1 C.2.1 dX6_showClasses_0 rfl (lv_at hl 0 rfl) ?_
  obtain ⟨r1, hr1, h2⟩ := bd_some hf
  clear hf
  refine x_callV_v_id (As := []) (rest := []) (q0 := 0) C Z (k_X6_showPresent l g n aF aH aP aT aC aK aB aQ aU aV aS aR rr sF sH sP sT sC sK sB sQ sU sV sS sR r1 hr1) gX6_showClasses_X6_showPresent yk_X6_showPresent ⟨Nat.le_of_ble_eq_true rfl, Nat.le_of_ble_eq_true rfl⟩ rfl rfl ⟨Nat.zero_le _, Nat.zero_le _⟩ hl.1 rfl (Nat.le_of_ble_eq_true rfl) rfl dX6_showClasses_1 (fun H locs Z => ?_)
  refine lv_aload_n C.1 C.2.1 dX6_showClasses_4 rfl (lv_at hl 0 rfl) ?_
  refine x_get C Z 0 rfl rfl i_X6_X6_showClasses (k := 3) (by decide) (List.mem_of_getElem? (i := 1) rfl) rfl dX6_showClasses_5 ?_
  refine lv_aload_n C.1 C.2.1 dX6_showClasses_8 rfl (lv_at hl 0 rfl) ?_
  refine x_get C Z 0 rfl rfl i_X6_X6_showClasses (k := 2) (by decide) (List.mem_of_getElem? (i := 2) rfl) rfl dX6_showClasses_9 ?_
  obtain ⟨r3, hr3, h4⟩ := bd_some h2
  clear h2
  refine x_callV_v_P (As := [.ref (aT 0)]) (rest := []) (q0 := 0) (X2 := (wF g aF (aH 0) (aP 0) (aT 0) (aC 0) (aB 0) (aQ 0) (aU 0) (aV 0) (aS 0) (aR 0) sF ++ (wH g aH sH ++ (wP g aP sP ++ (wT g aT r1 ++ (wC g aC (aK 0) rr r3.1 ++ (wS g aK r3.2 ++ (wB g aB sB ++ (wT g aQ sQ ++ (wT g aU sU ++ (wT g aV sV ++ (wS g aS sS ++ wS g aR sR)))))))))))) C Z fr_FHPTCKBQUVSR_4_5_3 (k_X1_refresh l g n aC aK aT rr sC sK r1 r3 hr3) gX6_showClasses_X1_refresh yk_X1_refresh ⟨Nat.le_of_ble_eq_true rfl, Nat.le_of_ble_eq_true rfl⟩ rfl rfl ⟨Nat.zero_le _, Nat.zero_le _⟩ hl.1 rfl (Nat.le_of_ble_eq_true rfl) rfl dX6_showClasses_12 (fun H locs Z => ?_)
  have h5 := Option.some.inj h4
  subst h5
  exact hRet _ _ _ _ Z dX6_showClasses_15
abbrev rmX1_factorsWith : Room := { frames := 0, cells := 0, slots := 0, locals := 0 }
theorem yk_X1_factorsWith : xY yX1_factorsWith RX1 cX1_factorsWith 5 (some .int) wsX1_factorsWith rmX1_factorsWith 2 := ⟨⟨_, rfl⟩, by decide +kernel, rfl, rfl⟩
theorem i_X1_X1_factorsWith : ∀ w ∈ u_ws RX1 TX1 13, w ∈ wsX1_factorsWith := fun _ h => List.mem_cons_of_mem _ (List.mem_append_right _ h)
set_option maxHeartbeats 4000000 in
set_option maxRecDepth 100000 in
theorem k_X1_factorsWith (l : Launch) (g : xG) (n : Nat) (aC : Nat → Nat) (aK : Nat → Nat) (rr : Nat → Nat) (sC : ClsS) (sK : SwpS) (v1 : Int) (v2 : Int) (r : Int) (hf : p_X1_factorsWith n sC v1 v2 = some r) : xMi l yX1_factorsWith wsX1_factorsWith rmX1_factorsWith g [.ref (aC 0), .int (iI v1), .int (iI v2)] ((wC g aC (aK 0) rr sC ++ wS g aK sK) ++ wR g rr sC.classOf) ((wC g aC (aK 0) rr sC ++ wS g aK sK) ++ wR g rr sC.classOf) r := by
  refine x_ofW_i (own := RX1) (by decide) rfl rfl (Nat.le_of_ble_eq_true rfl) ?_
  intro p e s m args below meth c ls A QQ C hRet Z hl
  have hl : lv_has ls 5 [(0, .ref (aC 0)), (1, .int (iI v1)), (2, .int (iI v2))] := hl
  unfold p_X1_factorsWith at hf
  refine x_iconst C dX1_factorsWith_0 ?_
  refine lv_istore_n (lv' := [(3, .int (iI 0)), (0, .ref (aC 0)), (1, .int (iI v1)), (2, .int (iI v2))]) C.1 C.2.1 dX1_factorsWith_1 rfl hl (by decide) rfl (fun ls hl => ?_)
  refine x_iconst C dX1_factorsWith_2 ?_
  refine lv_istore (lv' := [(4, .int (iI 0)), (3, .int (iI 0)), (0, .ref (aC 0)), (1, .int (iI v1)), (2, .int (iI v2))]) C.1 C.2.1 dX1_factorsWith_3 hl (by decide) rfl (fun ls hl => ?_)
  obtain ⟨ex5, hl5, h81⟩ := bd_some hf
  clear hf
  have hK5 : ∀ (H : Heap) (locs : List Loc) (ls : Array Slot), xSt g A s ((wC g aC (aK 0) rr sC ++ wS g aK sK) ++ wR g rr sC.classOf) H locs → lv_has ls 5 [(3, .int (iI ex5))] → W p l e rmX1_factorsWith s m args below meth c H locs 0 0 QQ (F0 m 83 ls []) := by
    intro H locs ls Z hl
    have h82 := h81
    clear h81
    refine lv_iload_n C.1 C.2.1 dX1_factorsWith_83 rfl (lv_at hl 0 rfl) ?_
    have h83 := Option.some.inj h82
    subst h83
    exact hRet _ _ _ _ Z dX1_factorsWith_84
  have hL5 : ∀ (k5 : Nat) (z5 : Int × Int) (H : Heap) (locs : List Loc) (ls : Array Slot), lp (p_X1_factorsWith_b5 n sC v1 v2) k5 z5 = some ex5 → xSt g A s ((wC g aC (aK 0) rr sC ++ wS g aK sK) ++ wR g rr sC.classOf) H locs → lv_has ls 5 [(0, .ref (aC 0)), (1, .int (iI v1)), (2, .int (iI v2)), (3, .int (iI z5.1)), (4, .int (iI z5.2))] → W p l e rmX1_factorsWith s m args below meth c H locs 0 0 QQ (F0 m 5 ls []) := by
    intro k5
    induction k5 with
    | zero => intro z5 H locs ls h; exact (lp_0 h).elim
    | succ k5 ih5 =>
      intro z5 H locs ls h Z hl
      obtain ⟨x5, hb5, hx5⟩ := lp_s h
      clear h
      unfold p_X1_factorsWith_b5 at hb5
      refine lv_iload C.1 C.2.1 dX1_factorsWith_5 (lv_at hl 4 rfl) ?_
      refine lv_aload_n C.1 C.2.1 dX1_factorsWith_7 rfl (lv_at hl 0 rfl) ?_
      refine x_get C Z 0 rfl rfl i_X1_X1_factorsWith (k := 11) (by decide) (List.mem_of_getElem? (i := 1) rfl) rfl dX1_factorsWith_8 ?_
      have q41 := (ck_some hb5).1
      have h42 := (ck_some hb5).2
      clear hb5
      have q43 := (ck_some h42).1
      have h44 := (ck_some h42).2
      clear h42
      refine x_icmp_ge (tgt := 83) C dX1_factorsWith_11 (by decide) q41 q43 (fun c45 => ?_) (fun c45 => ?_)
      · have h46 := if_n h44 c45
        clear h44
        cases h46
        have h48 := lp_R hx5
        subst h48
        exact hK5 _ _ _ Z (lv_sub hl [3] rfl)
      · have h47 := if_p h44 c45
        clear h44
        refine lv_aload_n C.1 C.2.1 dX1_factorsWith_14 rfl (lv_at hl 0 rfl) ?_
        refine x_get C Z 0 rfl rfl i_X1_X1_factorsWith (k := 6) (by decide) (List.mem_of_getElem? (i := 2) rfl) rfl dX1_factorsWith_15 ?_
        refine lv_iload C.1 C.2.1 dX1_factorsWith_18 (lv_at hl 4 rfl) ?_
        have q49 := (ix_some h47).1
        have h50 := (ix_some h47).2
        clear h47
        refine x_iald C Z 6 rfl (by decide) q49 dX1_factorsWith_20 ?_
        refine lv_iload_n C.1 C.2.1 dX1_factorsWith_21 rfl (lv_at hl 1 rfl) ?_
        have q51 := (ck_some h50).1
        have h52 := (ck_some h50).2
        clear h50
        have q53 := (ck_some h52).1
        have h54 := (ck_some h52).2
        clear h52
        refine x_icmp_lt (tgt := 77) C dX1_factorsWith_22 (by decide) q51 q53 (fun c55 => ?_) (fun c55 => ?_)
        · have h56 := if_p h54 c55
          clear h54
          refine x_iinc (lv' := [(4, .int (iI (z5.2 + 1))), (0, .ref (aC 0)), (1, .int (iI v1)), (2, .int (iI v2)), (3, .int (iI z5.1))]) C dX1_factorsWith_77 hl (k := 4) rfl (by decide) rfl (fun ls hl => ?_)
          refine lv_goto (tgt := 5) C.1 C.2.1 dX1_factorsWith_80 (by decide) ?_
          cases h56
          exact ih5 (z5.1, z5.2 + 1) _ _ _ (lp_L2 hx5) Z (lv_sub hl [1, 2, 3, 4, 0] rfl)
        · have h57 := if_n h54 c55
          clear h54
          refine lv_iload_n C.1 C.2.1 dX1_factorsWith_25 rfl (lv_at hl 2 rfl) ?_
          have q58 := (ck_some h57).1
          have h59 := (ck_some h57).2
          clear h57
          refine x_if_ne (tgt := 52) C dX1_factorsWith_26 (by decide) q58 (fun c60 => ?_) (fun c60 => ?_)
          · have h61 := if_n h59 c60
            clear h59
            refine lv_iload_n C.1 C.2.1 dX1_factorsWith_52 rfl (lv_at hl 2 rfl) ?_
            refine lv_aload_n C.1 C.2.1 dX1_factorsWith_53 rfl (lv_at hl 0 rfl) ?_
            refine x_get C Z 0 rfl rfl i_X1_X1_factorsWith (k := 5) (by decide) (List.mem_of_getElem? (i := 4) rfl) rfl dX1_factorsWith_54 ?_
            refine lv_iload C.1 C.2.1 dX1_factorsWith_57 (lv_at hl 4 rfl) ?_
            refine x_iald C Z 5 rfl (by decide) q49 dX1_factorsWith_59 ?_
            have q65 := (ck_some h61).1
            have h66 := (ck_some h61).2
            clear h61
            refine x_icmp_lt (tgt := 77) C dX1_factorsWith_60 (by decide) q58 q65 (fun c67 => ?_) (fun c67 => ?_)
            · have h68 := if_p h66 c67
              clear h66
              refine x_iinc (lv' := [(4, .int (iI (z5.2 + 1))), (0, .ref (aC 0)), (1, .int (iI v1)), (2, .int (iI v2)), (3, .int (iI z5.1))]) C dX1_factorsWith_77 hl (k := 4) rfl (by decide) rfl (fun ls hl => ?_)
              refine lv_goto (tgt := 5) C.1 C.2.1 dX1_factorsWith_80 (by decide) ?_
              cases h68
              exact ih5 (z5.1, z5.2 + 1) _ _ _ (lp_L2 hx5) Z (lv_sub hl [1, 2, 3, 4, 0] rfl)
            · have h69 := if_n h66 c67
              clear h66
              refine lv_iload_n C.1 C.2.1 dX1_factorsWith_63 rfl (lv_at hl 2 rfl) ?_
              refine lv_aload_n C.1 C.2.1 dX1_factorsWith_64 rfl (lv_at hl 0 rfl) ?_
              refine x_get C Z 0 rfl rfl i_X1_X1_factorsWith (k := 4) (by decide) (List.mem_of_getElem? (i := 3) rfl) rfl dX1_factorsWith_65 ?_
              refine lv_iload C.1 C.2.1 dX1_factorsWith_68 (lv_at hl 4 rfl) ?_
              refine x_iald C Z 4 rfl (by decide) q49 dX1_factorsWith_70 ?_
              have q72 := (ck_some h69).1
              have h73 := (ck_some h69).2
              clear h69
              refine x_icmp_gt (tgt := 77) C dX1_factorsWith_71 (by decide) q58 q72 (fun c74 => ?_) (fun c74 => ?_)
              · have h75 := if_p h73 c74
                clear h73
                refine x_iinc (lv' := [(4, .int (iI (z5.2 + 1))), (0, .ref (aC 0)), (1, .int (iI v1)), (2, .int (iI v2)), (3, .int (iI z5.1))]) C dX1_factorsWith_77 hl (k := 4) rfl (by decide) rfl (fun ls hl => ?_)
                refine lv_goto (tgt := 5) C.1 C.2.1 dX1_factorsWith_80 (by decide) ?_
                cases h75
                exact ih5 (z5.1, z5.2 + 1) _ _ _ (lp_L2 hx5) Z (lv_sub hl [1, 2, 3, 4, 0] rfl)
              · have h76 := if_n h73 c74
                clear h73
                refine x_iinc (lv' := [(3, .int (iI (z5.1 + 1))), (0, .ref (aC 0)), (1, .int (iI v1)), (2, .int (iI v2)), (4, .int (iI z5.2))]) C dX1_factorsWith_74 hl (k := 3) rfl (by decide) rfl (fun ls hl => ?_)
                refine x_iinc (lv' := [(4, .int (iI (z5.2 + 1))), (3, .int (iI (z5.1 + 1))), (0, .ref (aC 0)), (1, .int (iI v1)), (2, .int (iI v2))]) C dX1_factorsWith_77 hl (k := 4) rfl (by decide) rfl (fun ls hl => ?_)
                refine lv_goto (tgt := 5) C.1 C.2.1 dX1_factorsWith_80 (by decide) ?_
                cases h76
                exact ih5 (z5.1 + 1, z5.2 + 1) _ _ _ (lp_L2 hx5) Z (lv_sub hl [2, 3, 4, 1, 0] rfl)
          · have h62 := if_p h59 c60
            clear h59
            refine lv_iload_n C.1 C.2.1 dX1_factorsWith_29 rfl (lv_at hl 3 rfl) ?_
            refine lv_aload_n C.1 C.2.1 dX1_factorsWith_30 rfl (lv_at hl 0 rfl) ?_
            refine x_get C Z 0 rfl rfl i_X1_X1_factorsWith (k := 4) (by decide) (List.mem_of_getElem? (i := 3) rfl) rfl dX1_factorsWith_31 ?_
            refine lv_iload C.1 C.2.1 dX1_factorsWith_34 (lv_at hl 4 rfl) ?_
            refine x_iald C Z 4 rfl (by decide) q49 dX1_factorsWith_36 ?_
            refine lv_aload_n C.1 C.2.1 dX1_factorsWith_37 rfl (lv_at hl 0 rfl) ?_
            refine x_get C Z 0 rfl rfl i_X1_X1_factorsWith (k := 5) (by decide) (List.mem_of_getElem? (i := 4) rfl) rfl dX1_factorsWith_38 ?_
            refine lv_iload C.1 C.2.1 dX1_factorsWith_41 (lv_at hl 4 rfl) ?_
            refine x_iald C Z 5 rfl (by decide) q49 dX1_factorsWith_43 ?_
            refine x_isub C dX1_factorsWith_44 ?_
            refine x_iconst C dX1_factorsWith_45 ?_
            refine x_iadd C dX1_factorsWith_46 ?_
            refine x_iadd C dX1_factorsWith_47 ?_
            refine lv_istore_n (lv' := [(3, .int (iI (z5.1 + (((sC.longest z5.2) - (sC.shortest z5.2)) + 1)))), (0, .ref (aC 0)), (1, .int (iI v1)), (2, .int (iI v2)), (4, .int (iI z5.2))]) C.1 C.2.1 dX1_factorsWith_48 rfl hl (by decide) rfl (fun ls hl => ?_)
            refine lv_goto (tgt := 77) C.1 C.2.1 dX1_factorsWith_49 (by decide) ?_
            refine x_iinc (lv' := [(4, .int (iI (z5.2 + 1))), (3, .int (iI (z5.1 + (((sC.longest z5.2) - (sC.shortest z5.2)) + 1)))), (0, .ref (aC 0)), (1, .int (iI v1)), (2, .int (iI v2))]) C dX1_factorsWith_77 hl (k := 4) rfl (by decide) rfl (fun ls hl => ?_)
            refine lv_goto (tgt := 5) C.1 C.2.1 dX1_factorsWith_80 (by decide) ?_
            cases h62
            exact ih5 (z5.1 + (((sC.longest z5.2) - (sC.shortest z5.2)) + 1), z5.2 + 1) _ _ _ (lp_L2 hx5) Z (lv_sub hl [2, 3, 4, 1, 0] rfl)
  exact hL5 n (0, 0) _ _ _ hl5 Z (lv_sub hl [2, 3, 4, 1, 0] rfl)
abbrev rmX6_factors : Room := { frames := 6, cells := 0, slots := 0, locals := 139 }
theorem yk_X6_factors : xY yX6_factors RX6 cX6_factors 3 (some .int) wsX6_factors rmX6_factors 2 := ⟨⟨_, rfl⟩, by decide +kernel, rfl, rfl⟩
theorem i_X1_X6_factors : ∀ w ∈ u_ws RX1 TX1 13, w ∈ wsX6_factors := fun _ h => List.mem_cons_of_mem _ (List.mem_append_left _ (List.mem_append_right _ h))
theorem i_X2_X6_factors : ∀ w ∈ u_ws RX2 TX2 5, w ∈ wsX6_factors := fun _ h => List.mem_cons_of_mem _ (List.mem_append_left _ (List.mem_append_left _ (List.mem_append_right _ h)))
theorem i_X4_X6_factors : ∀ w ∈ u_ws RX4 TX4 1, w ∈ wsX6_factors := fun _ h => List.mem_cons_of_mem _ (List.mem_append_right _ h)
theorem i_X5_X6_factors : ∀ w ∈ u_ws RX5 TX5 8, w ∈ wsX6_factors := fun _ h => List.mem_cons_of_mem _ (List.mem_append_left _ (List.mem_append_left _ (List.mem_append_left _ (List.mem_append_right _ h))))
theorem i_X6_X6_factors : ∀ w ∈ u_ws RX6 TX6 11, w ∈ wsX6_factors := fun _ h => List.mem_cons_of_mem _ (List.mem_append_left _ (List.mem_append_left _ (List.mem_append_left _ (List.mem_append_left _ (List.mem_append_right _ h)))))
set_option maxHeartbeats 4000000 in
set_option maxRecDepth 100000 in
theorem k_X6_factors (l : Launch) (g : xG) (n : Nat) (aF : Nat → Nat) (aH : Nat → Nat) (aP : Nat → Nat) (aT : Nat → Nat) (aC : Nat → Nat) (aK : Nat → Nat) (aB : Nat → Nat) (aQ : Nat → Nat) (aU : Nat → Nat) (aV : Nat → Nat) (aS : Nat → Nat) (aR : Nat → Nat) (rr : Nat → Nat) (sF : Int) (sH : HisS) (sP : PadS) (sT : TxtS) (sC : ClsS) (sK : SwpS) (sB : BegS) (sQ : TxtS) (sU : TxtS) (sV : TxtS) (sS : SwpS) (sR : SwpS) (v1 : Int) (v2 : Int) (r : Int × TxtS × ClsS × SwpS) (hf : p_X6_factors n sF sH sT sC sK v1 v2 = some r) : xMi l yX6_factors wsX6_factors rmX6_factors g [.ref (aF 0), .int (iI v1), .int (iI v2)] ((wF g aF (aH 0) (aP 0) (aT 0) (aC 0) (aB 0) (aQ 0) (aU 0) (aV 0) (aS 0) (aR 0) sF ++ (wH g aH sH ++ (wP g aP sP ++ (wT g aT sT ++ (wC g aC (aK 0) rr sC ++ (wS g aK sK ++ (wB g aB sB ++ (wT g aQ sQ ++ (wT g aU sU ++ (wT g aV sV ++ (wS g aS sS ++ wS g aR sR))))))))))) ++ wR g rr sC.classOf) ((wF g aF (aH 0) (aP 0) (aT 0) (aC 0) (aB 0) (aQ 0) (aU 0) (aV 0) (aS 0) (aR 0) sF ++ (wH g aH sH ++ (wP g aP sP ++ (wT g aT r.2.1 ++ (wC g aC (aK 0) rr r.2.2.1 ++ (wS g aK r.2.2.2 ++ (wB g aB sB ++ (wT g aQ sQ ++ (wT g aU sU ++ (wT g aV sV ++ (wS g aS sS ++ wS g aR sR))))))))))) ++ wR g rr r.2.2.1.classOf) r.1 := by
  refine x_ofW_i (own := RX6) (by decide) rfl rfl (Nat.le_of_ble_eq_true rfl) ?_
  intro p e s m args below meth c ls A QQ C hRet Z hl
  have hl : lv_has ls 3 [(0, .ref (aF 0)), (1, .int (iI v1)), (2, .int (iI v2))] := hl
  unfold p_X6_factors at hf
  refine lv_iload_n C.1 C.2.1 dX6_factors_0 rfl (lv_at hl 1 rfl) ?_
  obtain ⟨r1, hr1, h2⟩ := bd_some hf
  clear hf
  refine x_callS_i (As := [.int (iI v1)]) (rest := []) C Z (k_X6_isEndCount l g n v1 r1 hr1) gX6_factors_X6_isEndCount yk_X6_isEndCount ⟨Nat.le_of_ble_eq_true rfl, Nat.le_of_ble_eq_true rfl⟩ ⟨Nat.zero_le _, Nat.zero_le _⟩ hl.1 rfl (Nat.le_of_ble_eq_true rfl) rfl dX6_factors_1 (fun H locs Z => ?_)
  have q3 := (ck_some h2).1
  have h4 := (ck_some h2).2
  clear h2
  refine x_if_eq (tgt := 17) C dX6_factors_4 (by decide) q3 (fun c5 => ?_) (fun c5 => ?_)
  · have h6 := if_p h4 c5
    clear h4
    refine x_bipush C dX6_factors_17 (by decide) ?_
    have h8 := Option.some.inj h6
    subst h8
    exact hRet _ _ _ _ Z dX6_factors_19
  · have h7 := if_n h4 c5
    clear h4
    refine lv_iload_n C.1 C.2.1 dX6_factors_7 rfl (lv_at hl 2 rfl) ?_
    have q9 := (ck_some h7).1
    have h10 := (ck_some h7).2
    clear h7
    refine x_if_lt (tgt := 17) C dX6_factors_8 (by decide) q9 (fun c11 => ?_) (fun c11 => ?_)
    · have h12 := if_p h10 c11
      clear h10
      refine x_bipush C dX6_factors_17 (by decide) ?_
      have h14 := Option.some.inj h12
      subst h14
      exact hRet _ _ _ _ Z dX6_factors_19
    · have h13 := if_n h10 c11
      clear h10
      refine lv_iload_n C.1 C.2.1 dX6_factors_11 rfl (lv_at hl 2 rfl) ?_
      refine x_bipush C dX6_factors_12 (by decide) ?_
      refine x_icmp_le (tgt := 20) C dX6_factors_14 (by decide) q9 (by decide) (fun c15 => ?_) (fun c15 => ?_)
      · have h16 := if_n h13 c15
        clear h13
        refine lv_aload_n C.1 C.2.1 dX6_factors_20 rfl (lv_at hl 0 rfl) ?_
        obtain ⟨r18, hr18, h19⟩ := bd_some h16
        clear h16
        refine x_callV_v_id (As := []) (rest := []) (q0 := 0) C Z (k_X6_showClasses l g n aF aH aP aT aC aK aB aQ aU aV aS aR rr sF sH sP sT sC sK sB sQ sU sV sS sR r18 hr18) gX6_factors_X6_showClasses yk_X6_showClasses ⟨Nat.le_of_ble_eq_true rfl, Nat.le_of_ble_eq_true rfl⟩ rfl rfl ⟨Nat.zero_le _, Nat.zero_le _⟩ hl.1 rfl (Nat.le_of_ble_eq_true rfl) rfl dX6_factors_21 (fun H locs Z => ?_)
        refine lv_aload_n C.1 C.2.1 dX6_factors_24 rfl (lv_at hl 0 rfl) ?_
        refine x_get C Z 0 rfl rfl i_X6_X6_factors (k := 3) (by decide) (List.mem_of_getElem? (i := 1) rfl) rfl dX6_factors_25 ?_
        refine lv_iload_n C.1 C.2.1 dX6_factors_28 rfl (lv_at hl 1 rfl) ?_
        refine lv_iload_n C.1 C.2.1 dX6_factors_29 rfl (lv_at hl 2 rfl) ?_
        obtain ⟨r20, hr20, h21⟩ := bd_some h19
        clear h19
        refine x_callV_i_P (As := [.int (iI v1), .int (iI v2)]) (rest := []) (q0 := 0) (X2 := (wF g aF (aH 0) (aP 0) (aT 0) (aC 0) (aB 0) (aQ 0) (aU 0) (aV 0) (aS 0) (aR 0) sF ++ (wH g aH sH ++ (wP g aP sP ++ (wT g aT r18.1 ++ (wC g aC (aK 0) rr r18.2.1 ++ (wS g aK r18.2.2 ++ (wB g aB sB ++ (wT g aQ sQ ++ (wT g aU sU ++ (wT g aV sV ++ (wS g aS sS ++ wS g aR sR)))))))))))) C Z fr_FHPTCKBQUVSR_4_5 (k_X1_factorsWith l g n aC aK rr r18.2.1 r18.2.2 v1 v2 r20 hr20) gX6_factors_X1_factorsWith yk_X1_factorsWith ⟨Nat.le_of_ble_eq_true rfl, Nat.le_of_ble_eq_true rfl⟩ rfl rfl ⟨Nat.zero_le _, Nat.zero_le _⟩ hl.1 rfl (Nat.le_of_ble_eq_true rfl) rfl dX6_factors_30 (fun H locs Z => ?_)
        have h22 := Option.some.inj h21
        subst h22
        exact hRet _ _ _ _ Z dX6_factors_33
      · have h17 := if_p h13 c15
        clear h13
        refine x_bipush C dX6_factors_17 (by decide) ?_
        have h23 := Option.some.inj h17
        subst h23
        exact hRet _ _ _ _ Z dX6_factors_19
abbrev rmX5_sharedFroma : Room := { frames := 2, cells := 0, slots := 0, locals := 42 }
theorem yk_X5_sharedFroma : xY yX5_sharedFrom RX5 cX5_sharedFrom 6 (some .int) wsX5_sharedFrom rmX5_sharedFroma 3 := ⟨⟨_, rfl⟩, by decide +kernel, rfl, rfl⟩
theorem i_X5_X5_sharedFrom : ∀ w ∈ u_ws RX5 TX5 8, w ∈ wsX5_sharedFrom := fun _ h => List.mem_cons_of_mem _ (List.mem_append_right _ h)
set_option maxHeartbeats 4000000 in
set_option maxRecDepth 100000 in
theorem k_X5_sharedFroma (l : Launch) (g : xG) (n : Nat) (aT : Nat → Nat) (sT : TxtS) (v1 : Int) (v3 : Int) (r : Int) (hf : p_X5_sharedFroma n sT v1 v3 = some r) : xMi l yX5_sharedFrom wsX5_sharedFrom rmX5_sharedFroma g [.ref (aT 0), .int (iI v1), .ref (aT 0), .int (iI v3)] (wT g aT sT) (wT g aT sT) r := by
  refine x_ofW_i (own := RX5) (by decide) rfl rfl (Nat.le_of_ble_eq_true rfl) ?_
  intro p e s m args below meth c ls A QQ C hRet Z hl
  have hl : lv_has ls 6 [(0, .ref (aT 0)), (1, .int (iI v1)), (2, .ref (aT 0)), (3, .int (iI v3))] := hl
  unfold p_X5_sharedFroma at hf
  refine lv_aload_n C.1 C.2.1 dX5_sharedFrom_0 rfl (lv_at hl 0 rfl) ?_
  refine lv_iload_n C.1 C.2.1 dX5_sharedFrom_1 rfl (lv_at hl 1 rfl) ?_
  obtain ⟨r1, hr1, h2⟩ := bd_some hf
  clear hf
  refine x_callV_i_id (As := [.int (iI v1)]) (rest := []) (q0 := 0) C Z (k_X5_lettersFrom l g n aT sT v1 r1 hr1) gX5_sharedFrom_X5_lettersFrom yk_X5_lettersFrom ⟨Nat.le_of_ble_eq_true rfl, Nat.le_of_ble_eq_true rfl⟩ rfl rfl ⟨Nat.zero_le _, Nat.zero_le _⟩ hl.1 rfl (Nat.le_of_ble_eq_true rfl) rfl dX5_sharedFrom_2 (fun H locs Z => ?_)
  refine lv_aload_n C.1 C.2.1 dX5_sharedFrom_5 rfl (lv_at hl 2 rfl) ?_
  refine lv_iload_n C.1 C.2.1 dX5_sharedFrom_6 rfl (lv_at hl 3 rfl) ?_
  obtain ⟨r3, hr3, h4⟩ := bd_some h2
  clear h2
  refine x_callV_i_id (As := [.int (iI v3)]) (rest := [.int (iI r1)]) (q0 := 0) C Z (k_X5_lettersFrom l g n aT sT v3 r3 hr3) gX5_sharedFrom_X5_lettersFrom yk_X5_lettersFrom ⟨Nat.le_of_ble_eq_true rfl, Nat.le_of_ble_eq_true rfl⟩ rfl rfl ⟨Nat.zero_le _, Nat.zero_le _⟩ hl.1 rfl (Nat.le_of_ble_eq_true rfl) rfl dX5_sharedFrom_7 (fun H locs Z => ?_)
  have q5 := (ck_some h4).1
  have h6 := (ck_some h4).2
  clear h4
  have q7 := (ck_some h6).1
  have h8 := (ck_some h6).2
  clear h6
  refine x_mmin (rest := []) C hl.1 (List.mem_of_getElem? (i := 1) rfl) (List.mem_of_getElem? (i := 2) rfl) (List.mem_of_getElem? (i := 3) rfl) (List.mem_of_getElem? (i := 4) rfl) (by decide) (by decide) (Nat.le_of_ble_eq_true rfl) ⟨Nat.zero_le _, Nat.zero_le _⟩ q5 q7 dX5_sharedFrom_10 ?_
  refine lv_istore (lv' := [(4, .int (iI (min r1 r3))), (0, .ref (aT 0)), (1, .int (iI v1)), (2, .ref (aT 0)), (3, .int (iI v3))]) C.1 C.2.1 dX5_sharedFrom_13 hl (by decide) rfl (fun ls hl => ?_)
  refine x_iconst C dX5_sharedFrom_15 ?_
  refine lv_istore (lv' := [(5, .int (iI 0)), (4, .int (iI (min r1 r3))), (0, .ref (aT 0)), (1, .int (iI v1)), (2, .ref (aT 0)), (3, .int (iI v3))]) C.1 C.2.1 dX5_sharedFrom_16 hl (by decide) rfl (fun ls hl => ?_)
  obtain ⟨ex18, hl18, h51⟩ := bd_some h8
  clear h8
  have hK18 : ∀ (e18 : Unit) (H : Heap) (locs : List Loc) (ls : Array Slot), ex18 = .inr e18 → xSt g A s (wT g aT sT) H locs → lv_has ls 6 [(4, .int (iI (min r1 r3)))] → W p l e rmX5_sharedFroma s m args below meth c H locs 0 0 QQ (F0 m 53 ls []) := by
    intro e18 H locs ls he Z hl
    subst he
    have h52 := (Sum.elim_inr ..).symm.trans h51
    clear h51
    refine lv_iload C.1 C.2.1 dX5_sharedFrom_53 (lv_at hl 0 rfl) ?_
    have h53 := Option.some.inj h52
    subst h53
    exact hRet _ _ _ _ Z dX5_sharedFrom_55
  have hL18 : ∀ (k18 : Nat) (z18 : Int) (H : Heap) (locs : List Loc) (ls : Array Slot), lp (p_X5_sharedFroma_b18 n sT v1 v3 (min r1 r3)) k18 z18 = some ex18 → xSt g A s (wT g aT sT) H locs → lv_has ls 6 [(0, .ref (aT 0)), (1, .int (iI v1)), (2, .ref (aT 0)), (3, .int (iI v3)), (4, .int (iI (min r1 r3))), (5, .int (iI z18))] → W p l e rmX5_sharedFroma s m args below meth c H locs 0 0 QQ (F0 m 18 ls []) := by
    intro k18
    induction k18 with
    | zero => intro z18 H locs ls h; exact (lp_0 h).elim
    | succ k18 ih18 =>
      intro z18 H locs ls h Z hl
      obtain ⟨x18, hb18, hx18⟩ := lp_s h
      clear h
      unfold p_X5_sharedFroma_b18 at hb18
      refine lv_iload C.1 C.2.1 dX5_sharedFrom_18 (lv_at hl 5 rfl) ?_
      refine lv_iload C.1 C.2.1 dX5_sharedFrom_20 (lv_at hl 4 rfl) ?_
      have q30 := (ck_some hb18).1
      have h31 := (ck_some hb18).2
      clear hb18
      have q32 := (ck_some h31).1
      have h33 := (ck_some h31).2
      clear h31
      refine x_icmp_ge (tgt := 53) C dX5_sharedFrom_22 (by decide) q30 q32 (fun c34 => ?_) (fun c34 => ?_)
      · have h35 := if_n h33 c34
        clear h33
        cases h35
        exact hK18 () _ _ _ (lp_R hx18).symm Z (lv_sub hl [4] rfl)
      · have h36 := if_p h33 c34
        clear h33
        refine lv_aload_n C.1 C.2.1 dX5_sharedFrom_25 rfl (lv_at hl 0 rfl) ?_
        refine lv_iload_n C.1 C.2.1 dX5_sharedFrom_26 rfl (lv_at hl 1 rfl) ?_
        refine lv_iload C.1 C.2.1 dX5_sharedFrom_27 (lv_at hl 5 rfl) ?_
        refine x_iadd C dX5_sharedFrom_29 ?_
        obtain ⟨r37, hr37, h38⟩ := bd_some h36
        clear h36
        refine x_callV_i_id (As := [.int (iI (v1 + z18))]) (rest := []) (q0 := 0) C Z (k_X5_letterAt l g n aT sT (v1 + z18) r37 hr37) gX5_sharedFrom_X5_letterAt yk_X5_letterAt ⟨Nat.le_of_ble_eq_true rfl, Nat.le_of_ble_eq_true rfl⟩ rfl rfl ⟨Nat.zero_le _, Nat.zero_le _⟩ hl.1 rfl (Nat.le_of_ble_eq_true rfl) rfl dX5_sharedFrom_30 (fun H locs Z => ?_)
        refine lv_aload_n C.1 C.2.1 dX5_sharedFrom_33 rfl (lv_at hl 2 rfl) ?_
        refine lv_iload_n C.1 C.2.1 dX5_sharedFrom_34 rfl (lv_at hl 3 rfl) ?_
        refine lv_iload C.1 C.2.1 dX5_sharedFrom_35 (lv_at hl 5 rfl) ?_
        refine x_iadd C dX5_sharedFrom_37 ?_
        obtain ⟨r39, hr39, h40⟩ := bd_some h38
        clear h38
        refine x_callV_i_id (As := [.int (iI (v3 + z18))]) (rest := [.int (iI r37)]) (q0 := 0) C Z (k_X5_letterAt l g n aT sT (v3 + z18) r39 hr39) gX5_sharedFrom_X5_letterAt yk_X5_letterAt ⟨Nat.le_of_ble_eq_true rfl, Nat.le_of_ble_eq_true rfl⟩ rfl rfl ⟨Nat.zero_le _, Nat.zero_le _⟩ hl.1 rfl (Nat.le_of_ble_eq_true rfl) rfl dX5_sharedFrom_38 (fun H locs Z => ?_)
        have q41 := (ck_some h40).1
        have h42 := (ck_some h40).2
        clear h40
        have q43 := (ck_some h42).1
        have h44 := (ck_some h42).2
        clear h42
        refine x_icmp_eq (tgt := 47) C dX5_sharedFrom_41 (by decide) q41 q43 (fun c45 => ?_) (fun c45 => ?_)
        · have h46 := if_p h44 c45
          clear h44
          refine x_iinc (lv' := [(5, .int (iI (z18 + 1))), (0, .ref (aT 0)), (1, .int (iI v1)), (2, .ref (aT 0)), (3, .int (iI v3)), (4, .int (iI (min r1 r3)))]) C dX5_sharedFrom_47 hl (k := 5) rfl (by decide) rfl (fun ls hl => ?_)
          refine lv_goto (tgt := 18) C.1 C.2.1 dX5_sharedFrom_50 (by decide) ?_
          cases h46
          exact ih18 (z18 + 1) _ _ _ (lp_L2 hx18) Z (lv_sub hl [1, 2, 3, 4, 5, 0] rfl)
        · have h47 := if_n h44 c45
          clear h44
          refine lv_iload C.1 C.2.1 dX5_sharedFrom_44 (lv_at hl 5 rfl) ?_
          cases h47
          have h48 := lp_R hx18
          subst h48
          have h49 := (Sum.elim_inl ..).symm.trans h51
          have h50 := Option.some.inj h49
          subst h50
          exact hRet _ _ _ _ Z dX5_sharedFrom_46
  exact hL18 n 0 _ _ _ hl18 Z (lv_sub hl [2, 3, 4, 5, 1, 0] rfl)
abbrev rmX5_comesBefore : Room := { frames := 3, cells := 0, slots := 0, locals := 67 }
theorem yk_X5_comesBefore : xY yX5_comesBefore RX5 cX5_comesBefore 4 (some .boolean) wsX5_comesBefore rmX5_comesBefore 2 := ⟨⟨_, rfl⟩, by decide +kernel, rfl, rfl⟩
theorem i_X5_X5_comesBefore : ∀ w ∈ u_ws RX5 TX5 8, w ∈ wsX5_comesBefore := fun _ h => List.mem_cons_of_mem _ (List.mem_append_right _ h)
set_option maxHeartbeats 4000000 in
set_option maxRecDepth 100000 in
theorem k_X5_comesBefore (l : Launch) (g : xG) (n : Nat) (aT : Nat → Nat) (sT : TxtS) (v1 : Int) (v2 : Int) (r : Int) (hf : p_X5_comesBefore n sT v1 v2 = some r) : xMi l yX5_comesBefore wsX5_comesBefore rmX5_comesBefore g [.ref (aT 0), .int (iI v1), .int (iI v2)] (wT g aT sT) (wT g aT sT) r := by
  refine x_ofW_z (own := RX5) (by decide) rfl rfl (Nat.le_of_ble_eq_true rfl) ?_
  intro p e s m args below meth c ls A QQ C hRet Z hl
  have hl : lv_has ls 4 [(0, .ref (aT 0)), (1, .int (iI v1)), (2, .int (iI v2))] := hl
  unfold p_X5_comesBefore at hf
  have hJ26 : ∀ (v1_26 : Int) (v2_26 : Int) (H : Heap) (locs : List Loc) (ls : Array Slot), p_X5_comesBefore_j26 n sT v1_26 v2_26 = some r → xSt g A s (wT g aT sT) H locs → lv_has ls 4 [(0, .ref (aT 0)), (1, .int (iI v1_26)), (2, .int (iI v2_26))] → W p l e rmX5_comesBefore s m args below meth c H locs 0 0 QQ (F0 m 26 ls []) := by
    intro v1_26 v2_26 H locs ls hj26 Z hl
    unfold p_X5_comesBefore_j26 at hj26
    refine lv_aload_n C.1 C.2.1 dX5_comesBefore_26 rfl (lv_at hl 0 rfl) ?_
    refine lv_iload_n C.1 C.2.1 dX5_comesBefore_27 rfl (lv_at hl 1 rfl) ?_
    obtain ⟨r1, hr1, h2⟩ := bd_some hj26
    clear hj26
    refine x_callV_i_id (As := [.int (iI v1_26)]) (rest := []) (q0 := 0) C Z (k_X5_lettersFrom l g n aT sT v1_26 r1 hr1) gX5_comesBefore_X5_lettersFrom yk_X5_lettersFrom ⟨Nat.le_of_ble_eq_true rfl, Nat.le_of_ble_eq_true rfl⟩ rfl rfl ⟨Nat.zero_le _, Nat.zero_le _⟩ hl.1 rfl (Nat.le_of_ble_eq_true rfl) rfl dX5_comesBefore_28 (fun H locs Z => ?_)
    refine lv_aload_n C.1 C.2.1 dX5_comesBefore_31 rfl (lv_at hl 0 rfl) ?_
    refine lv_iload_n C.1 C.2.1 dX5_comesBefore_32 rfl (lv_at hl 2 rfl) ?_
    obtain ⟨r3, hr3, h4⟩ := bd_some h2
    clear h2
    refine x_callV_i_id (As := [.int (iI v2_26)]) (rest := [.int (iI r1)]) (q0 := 0) C Z (k_X5_lettersFrom l g n aT sT v2_26 r3 hr3) gX5_comesBefore_X5_lettersFrom yk_X5_lettersFrom ⟨Nat.le_of_ble_eq_true rfl, Nat.le_of_ble_eq_true rfl⟩ rfl rfl ⟨Nat.zero_le _, Nat.zero_le _⟩ hl.1 rfl (Nat.le_of_ble_eq_true rfl) rfl dX5_comesBefore_33 (fun H locs Z => ?_)
    have q5 := (ck_some h4).1
    have h6 := (ck_some h4).2
    clear h4
    have q7 := (ck_some h6).1
    have h8 := (ck_some h6).2
    clear h6
    refine x_icmp_ge (tgt := 43) C dX5_comesBefore_36 (by decide) q5 q7 (fun c9 => ?_) (fun c9 => ?_)
    · have h10 := if_n h8 c9
      clear h8
      refine x_iconst C dX5_comesBefore_43 ?_
      have h12 := Option.some.inj h10
      subst h12
      exact hRet _ _ _ _ (x_bool (Or.inl rfl)) Z dX5_comesBefore_44
    · have h11 := if_p h8 c9
      clear h8
      refine x_iconst C dX5_comesBefore_39 ?_
      refine lv_goto (tgt := 44) C.1 C.2.1 dX5_comesBefore_40 (by decide) ?_
      have h13 := Option.some.inj h11
      subst h13
      exact hRet _ _ _ _ (x_bool (Or.inr rfl)) Z dX5_comesBefore_44
  refine lv_aload_n C.1 C.2.1 dX5_comesBefore_0 rfl (lv_at hl 0 rfl) ?_
  refine lv_iload_n C.1 C.2.1 dX5_comesBefore_1 rfl (lv_at hl 1 rfl) ?_
  refine lv_aload_n C.1 C.2.1 dX5_comesBefore_2 rfl (lv_at hl 0 rfl) ?_
  refine lv_iload_n C.1 C.2.1 dX5_comesBefore_3 rfl (lv_at hl 2 rfl) ?_
  obtain ⟨r14, hr14, h15⟩ := bd_some hf
  clear hf
  refine x_callV_i_id (As := [.int (iI v1), .ref (aT 0), .int (iI v2)]) (rest := []) (q0 := 0) C Z (k_X5_sharedFroma l g n aT sT v1 v2 r14 hr14) gX5_comesBefore_X5_sharedFrom yk_X5_sharedFroma ⟨Nat.le_of_ble_eq_true rfl, Nat.le_of_ble_eq_true rfl⟩ rfl rfl ⟨Nat.zero_le _, Nat.zero_le _⟩ hl.1 rfl (Nat.le_of_ble_eq_true rfl) rfl dX5_comesBefore_4 (fun H locs Z => ?_)
  refine lv_istore_n (lv' := [(3, .int (iI r14)), (0, .ref (aT 0)), (1, .int (iI v1)), (2, .int (iI v2))]) C.1 C.2.1 dX5_comesBefore_7 rfl hl (by decide) rfl (fun ls hl => ?_)
  refine lv_iload_n C.1 C.2.1 dX5_comesBefore_8 rfl (lv_at hl 0 rfl) ?_
  refine lv_aload_n C.1 C.2.1 dX5_comesBefore_9 rfl (lv_at hl 1 rfl) ?_
  refine lv_iload_n C.1 C.2.1 dX5_comesBefore_10 rfl (lv_at hl 2 rfl) ?_
  obtain ⟨r16, hr16, h17⟩ := bd_some h15
  clear h15
  refine x_callV_i_id (As := [.int (iI v1)]) (rest := [.int (iI r14)]) (q0 := 0) C Z (k_X5_lettersFrom l g n aT sT v1 r16 hr16) gX5_comesBefore_X5_lettersFrom yk_X5_lettersFrom ⟨Nat.le_of_ble_eq_true rfl, Nat.le_of_ble_eq_true rfl⟩ rfl rfl ⟨Nat.zero_le _, Nat.zero_le _⟩ hl.1 rfl (Nat.le_of_ble_eq_true rfl) rfl dX5_comesBefore_11 (fun H locs Z => ?_)
  have q18 := (ck_some h17).1
  have h19 := (ck_some h17).2
  clear h17
  have q20 := (ck_some h19).1
  have h21 := (ck_some h19).2
  clear h19
  refine x_icmp_eq (tgt := 26) C dX5_comesBefore_14 (by decide) q18 q20 (fun c22 => ?_) (fun c22 => ?_)
  · have h23 := if_p h21 c22
    clear h21
    exact hJ26 v1 v2 _ _ _ h23 Z (lv_sub hl [1, 2, 3] rfl)
  · have h24 := if_n h21 c22
    clear h21
    refine lv_iload_n C.1 C.2.1 dX5_comesBefore_17 rfl (lv_at hl 0 rfl) ?_
    refine lv_aload_n C.1 C.2.1 dX5_comesBefore_18 rfl (lv_at hl 1 rfl) ?_
    refine lv_iload_n C.1 C.2.1 dX5_comesBefore_19 rfl (lv_at hl 3 rfl) ?_
    obtain ⟨r25, hr25, h26⟩ := bd_some h24
    clear h24
    refine x_callV_i_id (As := [.int (iI v2)]) (rest := [.int (iI r14)]) (q0 := 0) C Z (k_X5_lettersFrom l g n aT sT v2 r25 hr25) gX5_comesBefore_X5_lettersFrom yk_X5_lettersFrom ⟨Nat.le_of_ble_eq_true rfl, Nat.le_of_ble_eq_true rfl⟩ rfl rfl ⟨Nat.zero_le _, Nat.zero_le _⟩ hl.1 rfl (Nat.le_of_ble_eq_true rfl) rfl dX5_comesBefore_20 (fun H locs Z => ?_)
    have q27 := (ck_some h26).1
    have h28 := (ck_some h26).2
    clear h26
    refine x_icmp_ne (tgt := 45) C dX5_comesBefore_23 (by decide) q18 q27 (fun c29 => ?_) (fun c29 => ?_)
    · have h30 := if_n h28 c29
      clear h28
      refine lv_aload_n C.1 C.2.1 dX5_comesBefore_45 rfl (lv_at hl 1 rfl) ?_
      refine lv_iload_n C.1 C.2.1 dX5_comesBefore_46 rfl (lv_at hl 2 rfl) ?_
      refine lv_iload_n C.1 C.2.1 dX5_comesBefore_47 rfl (lv_at hl 0 rfl) ?_
      refine x_iadd C dX5_comesBefore_48 ?_
      obtain ⟨r32, hr32, h33⟩ := bd_some h30
      clear h30
      refine x_callV_i_id (As := [.int (iI (v1 + r14))]) (rest := []) (q0 := 0) C Z (k_X5_letterAt l g n aT sT (v1 + r14) r32 hr32) gX5_comesBefore_X5_letterAt yk_X5_letterAt ⟨Nat.le_of_ble_eq_true rfl, Nat.le_of_ble_eq_true rfl⟩ rfl rfl ⟨Nat.zero_le _, Nat.zero_le _⟩ hl.1 rfl (Nat.le_of_ble_eq_true rfl) rfl dX5_comesBefore_49 (fun H locs Z => ?_)
      refine lv_aload_n C.1 C.2.1 dX5_comesBefore_52 rfl (lv_at hl 1 rfl) ?_
      refine lv_iload_n C.1 C.2.1 dX5_comesBefore_53 rfl (lv_at hl 3 rfl) ?_
      refine lv_iload_n C.1 C.2.1 dX5_comesBefore_54 rfl (lv_at hl 0 rfl) ?_
      refine x_iadd C dX5_comesBefore_55 ?_
      obtain ⟨r34, hr34, h35⟩ := bd_some h33
      clear h33
      refine x_callV_i_id (As := [.int (iI (v2 + r14))]) (rest := [.int (iI r32)]) (q0 := 0) C Z (k_X5_letterAt l g n aT sT (v2 + r14) r34 hr34) gX5_comesBefore_X5_letterAt yk_X5_letterAt ⟨Nat.le_of_ble_eq_true rfl, Nat.le_of_ble_eq_true rfl⟩ rfl rfl ⟨Nat.zero_le _, Nat.zero_le _⟩ hl.1 rfl (Nat.le_of_ble_eq_true rfl) rfl dX5_comesBefore_56 (fun H locs Z => ?_)
      have q36 := (ck_some h35).1
      have h37 := (ck_some h35).2
      clear h35
      have q38 := (ck_some h37).1
      have h39 := (ck_some h37).2
      clear h37
      refine x_icmp_ge (tgt := 66) C dX5_comesBefore_59 (by decide) q36 q38 (fun c40 => ?_) (fun c40 => ?_)
      · have h41 := if_n h39 c40
        clear h39
        refine x_iconst C dX5_comesBefore_66 ?_
        have h43 := Option.some.inj h41
        subst h43
        exact hRet _ _ _ _ (x_bool (Or.inl rfl)) Z dX5_comesBefore_67
      · have h42 := if_p h39 c40
        clear h39
        refine x_iconst C dX5_comesBefore_62 ?_
        refine lv_goto (tgt := 67) C.1 C.2.1 dX5_comesBefore_63 (by decide) ?_
        have h44 := Option.some.inj h42
        subst h44
        exact hRet _ _ _ _ (x_bool (Or.inr rfl)) Z dX5_comesBefore_67
    · have h31 := if_p h28 c29
      clear h28
      exact hJ26 v1 v2 _ _ _ h31 Z (lv_sub hl [1, 2, 3] rfl)
abbrev rmX0_insert : Room := { frames := 4, cells := 0, slots := 0, locals := 90 }
theorem yk_X0_insert : xY yX0_insert RX0 cX0_insert 4 none wsX0_insert rmX0_insert 2 := ⟨⟨_, rfl⟩, by decide +kernel, rfl, rfl⟩
theorem i_X0_X0_insert : ∀ w ∈ u_ws RX0 TX0 4, w ∈ wsX0_insert := fun _ h => List.mem_cons_of_mem _ (List.mem_append_left _ (List.mem_append_right _ h))
theorem i_X5_X0_insert : ∀ w ∈ u_ws RX5 TX5 8, w ∈ wsX0_insert := fun _ h => List.mem_cons_of_mem _ (List.mem_append_right _ h)
set_option maxHeartbeats 4000000 in
set_option maxRecDepth 100000 in
theorem k_X0_insert (l : Launch) (g : xG) (n : Nat) (aB : Nat → Nat) (aT : Nat → Nat) (sB : BegS) (sT : TxtS) (v2 : Int) (r : BegS) (hf : p_X0_insert n sB sT v2 = some r) : xMv l yX0_insert wsX0_insert rmX0_insert g [.ref (aB 0), .ref (aT 0), .int (iI v2)] (wB g aB sB ++ wT g aT sT) (wB g aB r ++ wT g aT sT) := by
  refine x_ofW_v (own := RX0) (by decide) rfl rfl (Nat.le_of_ble_eq_true rfl) ?_
  intro p e s m args below meth c ls A QQ C hRet Z hl
  have hl : lv_has ls 4 [(0, .ref (aB 0)), (1, .ref (aT 0)), (2, .int (iI v2))] := hl
  unfold p_X0_insert at hf
  refine lv_aload_n C.1 C.2.1 dX0_insert_0 rfl (lv_at hl 0 rfl) ?_
  refine x_get C Z 0 rfl rfl i_X0_X0_insert (k := 2) (by decide) (List.mem_of_getElem? (i := 1) rfl) rfl dX0_insert_1 ?_
  refine x_bipush C dX0_insert_4 (by decide) ?_
  have q1 := (ck_some hf).1
  have h2 := (ck_some hf).2
  clear hf
  refine x_icmp_lt (tgt := 10) C dX0_insert_6 (by decide) q1 (by decide) (fun c3 => ?_) (fun c3 => ?_)
  · have h4 := if_p h2 c3
    clear h2
    refine lv_aload_n C.1 C.2.1 dX0_insert_10 rfl (lv_at hl 0 rfl) ?_
    refine x_get C Z 0 rfl rfl i_X0_X0_insert (k := 2) (by decide) (List.mem_of_getElem? (i := 1) rfl) rfl dX0_insert_11 ?_
    refine lv_istore_n (lv' := [(3, .int (iI sB.size)), (0, .ref (aB 0)), (1, .ref (aT 0)), (2, .int (iI v2))]) C.1 C.2.1 dX0_insert_14 rfl hl (by decide) rfl (fun ls hl => ?_)
    obtain ⟨ex15, hl15, h46⟩ := bd_some h4
    clear h4
    have hK15 : ∀ (H : Heap) (locs : List Loc) (ls : Array Slot), xSt g A s (wB g aB (ex15.2, sB.shared, sB.size, sB.version) ++ wT g aT sT) H locs → lv_has ls 4 [(0, .ref (aB 0)), (2, .int (iI v2)), (3, .int (iI ex15.1))] → W p l e rmX0_insert s m args below meth c H locs 0 0 QQ (F0 m 55 ls []) := by
      intro H locs ls Z hl
      have h47 := h46
      clear h46
      refine lv_aload_n C.1 C.2.1 dX0_insert_55 rfl (lv_at hl 0 rfl) ?_
      refine x_get C Z 0 rfl rfl i_X0_X0_insert (k := 0) (by decide) (List.mem_of_getElem? (i := 2) rfl) rfl dX0_insert_56 ?_
      refine lv_iload_n C.1 C.2.1 dX0_insert_59 rfl (lv_at hl 2 rfl) ?_
      refine lv_iload_n C.1 C.2.1 dX0_insert_60 rfl (lv_at hl 1 rfl) ?_
      have q48 := (ix_some h47).1
      have h49 := (ix_some h47).2
      clear h47
      refine x_iast (ws2 := wB g aB (up ex15.2 ex15.1 v2, sB.shared, sB.size, sB.version) ++ wT g aT sT) C Z 1 rfl (by decide) q48 dX0_insert_61 rfl (fun H locs Z => ?_)
      refine lv_aload_n C.1 C.2.1 dX0_insert_62 rfl (lv_at hl 0 rfl) ?_
      refine lv_dup C.1 C.2.1 dX0_insert_63 rfl ?_
      refine x_get C Z 0 rfl rfl i_X0_X0_insert (k := 2) (by decide) (List.mem_of_getElem? (i := 1) rfl) rfl dX0_insert_64 ?_
      refine x_iconst C dX0_insert_67 ?_
      refine x_iadd C dX0_insert_68 ?_
      refine x_put (ws2 := wB g aB (up ex15.2 ex15.1 v2, sB.shared, sB.size + 1, sB.version) ++ wT g aT sT) C Z 0 rfl rfl i_X0_X0_insert tyX0_ok nmX0 (k := 2) (by decide) (List.mem_of_getElem? (i := 1) rfl) rfl rfl (Nat.le_of_ble_eq_true rfl) dX0_insert_69 rfl (fun H locs Z => ?_)
      have h50 := Option.some.inj h49
      subst h50
      exact hRet _ _ _ _ Z dX0_insert_72
    have hL15 : ∀ (k15 : Nat) (z15 : Int × Row) (H : Heap) (locs : List Loc) (ls : Array Slot), lp (p_X0_insert_b15 n sT v2) k15 z15 = some ex15 → xSt g A s (wB g aB (z15.2, sB.shared, sB.size, sB.version) ++ wT g aT sT) H locs → lv_has ls 4 [(0, .ref (aB 0)), (1, .ref (aT 0)), (2, .int (iI v2)), (3, .int (iI z15.1))] → W p l e rmX0_insert s m args below meth c H locs 0 0 QQ (F0 m 15 ls []) := by
      intro k15
      induction k15 with
      | zero => intro z15 H locs ls h; exact (lp_0 h).elim
      | succ k15 ih15 =>
        intro z15 H locs ls h Z hl
        obtain ⟨x15, hb15, hx15⟩ := lp_s h
        clear h
        unfold p_X0_insert_b15 at hb15
        refine lv_iload_n C.1 C.2.1 dX0_insert_15 rfl (lv_at hl 3 rfl) ?_
        have q26 := (ck_some hb15).1
        have h27 := (ck_some hb15).2
        clear hb15
        refine x_if_le (tgt := 55) C dX0_insert_16 (by decide) q26 (fun c28 => ?_) (fun c28 => ?_)
        · have h29 := if_n h27 c28
          clear h27
          cases h29
          have h31 := lp_R hx15
          subst h31
          exact hK15 _ _ _ Z (lv_sub hl [0, 2, 3] rfl)
        · have h30 := if_p h27 c28
          clear h27
          refine lv_aload_n C.1 C.2.1 dX0_insert_19 rfl (lv_at hl 1 rfl) ?_
          refine lv_iload_n C.1 C.2.1 dX0_insert_20 rfl (lv_at hl 2 rfl) ?_
          refine lv_aload_n C.1 C.2.1 dX0_insert_21 rfl (lv_at hl 0 rfl) ?_
          refine x_get C Z 0 rfl rfl i_X0_X0_insert (k := 0) (by decide) (List.mem_of_getElem? (i := 2) rfl) rfl dX0_insert_22 ?_
          refine lv_iload_n C.1 C.2.1 dX0_insert_25 rfl (lv_at hl 3 rfl) ?_
          refine x_iconst C dX0_insert_26 ?_
          refine x_isub C dX0_insert_27 ?_
          have q32 := (ix_some h30).1
          have h33 := (ix_some h30).2
          clear h30
          refine x_iald C Z 1 rfl (by decide) q32 dX0_insert_28 ?_
          obtain ⟨r34, hr34, h35⟩ := bd_some h33
          clear h33
          refine x_callV_i_J (As := [.int (iI v2), .int (iI (z15.2 (z15.1 - 1)))]) (rest := []) (q0 := 0) (ws2 := wB g aB (z15.2, sB.shared, sB.size, sB.version) ++ wT g aT sT) C Z fr_BT_1 (k_X5_comesBefore l g n aT sT v2 (z15.2 (z15.1 - 1)) r34 hr34) gX0_insert_X5_comesBefore yk_X5_comesBefore ⟨Nat.le_of_ble_eq_true rfl, Nat.le_of_ble_eq_true rfl⟩ rfl rfl ⟨Nat.zero_le _, Nat.zero_le _⟩ hl.1 rfl (Nat.le_of_ble_eq_true rfl) rfl dX0_insert_29 (fun H locs Z => ?_)
          have q36 := (ck_some h35).1
          have h37 := (ck_some h35).2
          clear h35
          refine x_if_eq (tgt := 55) C dX0_insert_32 (by decide) q36 (fun c38 => ?_) (fun c38 => ?_)
          · have h39 := if_p h37 c38
            clear h37
            cases h39
            have h41 := lp_R hx15
            subst h41
            exact hK15 _ _ _ Z (lv_sub hl [0, 2, 3] rfl)
          · have h40 := if_n h37 c38
            clear h37
            refine lv_aload_n C.1 C.2.1 dX0_insert_35 rfl (lv_at hl 0 rfl) ?_
            refine x_get C Z 0 rfl rfl i_X0_X0_insert (k := 0) (by decide) (List.mem_of_getElem? (i := 2) rfl) rfl dX0_insert_36 ?_
            refine lv_iload_n C.1 C.2.1 dX0_insert_39 rfl (lv_at hl 3 rfl) ?_
            refine lv_aload_n C.1 C.2.1 dX0_insert_40 rfl (lv_at hl 0 rfl) ?_
            refine x_get C Z 0 rfl rfl i_X0_X0_insert (k := 0) (by decide) (List.mem_of_getElem? (i := 2) rfl) rfl dX0_insert_41 ?_
            refine lv_iload_n C.1 C.2.1 dX0_insert_44 rfl (lv_at hl 3 rfl) ?_
            refine x_iconst C dX0_insert_45 ?_
            refine x_isub C dX0_insert_46 ?_
            refine x_iald C Z 1 rfl (by decide) q32 dX0_insert_47 ?_
            have q44 := (ix_some h40).1
            have h45 := (ix_some h40).2
            clear h40
            refine x_iast (ws2 := wB g aB (up z15.2 z15.1 (z15.2 (z15.1 - 1)), sB.shared, sB.size, sB.version) ++ wT g aT sT) C Z 1 rfl (by decide) q44 dX0_insert_48 rfl (fun H locs Z => ?_)
            refine x_iinc (lv' := [(3, .int (iI (z15.1 + (-1)))), (0, .ref (aB 0)), (1, .ref (aT 0)), (2, .int (iI v2))]) C dX0_insert_49 hl (k := 3) rfl (by decide) rfl (fun ls hl => ?_)
            refine lv_goto (tgt := 15) C.1 C.2.1 dX0_insert_52 (by decide) ?_
            cases h45
            exact ih15 (z15.1 + (-1), up z15.2 z15.1 (z15.2 (z15.1 - 1))) _ _ _ (lp_L2 hx15) Z (lv_sub hl [1, 2, 3, 0] rfl)
    exact hL15 n (sB.size, sB.starts) _ _ _ hl15 Z (lv_sub hl [1, 2, 3, 0] rfl)
  · have h5 := if_n h2 c3
    clear h2
    have h51 := Option.some.inj h5
    subst h51
    exact hRet _ _ _ _ Z dX0_insert_9
abbrev rmX0_refresh : Room := { frames := 5, cells := 0, slots := 0, locals := 113 }
theorem yk_X0_refresh : xY yX0_refresh RX0 cX0_refresh 3 none wsX0_refresh rmX0_refresh 1 := ⟨⟨_, rfl⟩, by decide +kernel, rfl, rfl⟩
theorem i_X0_X0_refresh : ∀ w ∈ u_ws RX0 TX0 4, w ∈ wsX0_refresh := fun _ h => List.mem_cons_of_mem _ (List.mem_append_left _ (List.mem_append_right _ h))
theorem i_X5_X0_refresh : ∀ w ∈ u_ws RX5 TX5 8, w ∈ wsX0_refresh := fun _ h => List.mem_cons_of_mem _ (List.mem_append_right _ h)
set_option maxHeartbeats 4000000 in
set_option maxRecDepth 100000 in
theorem k_X0_refresh (l : Launch) (g : xG) (n : Nat) (aB : Nat → Nat) (aT : Nat → Nat) (sB : BegS) (sT : TxtS) (r : BegS) (hf : p_X0_refresh n sB sT = some r) : xMv l yX0_refresh wsX0_refresh rmX0_refresh g [.ref (aB 0), .ref (aT 0)] (wB g aB sB ++ wT g aT sT) (wB g aB r ++ wT g aT sT) := by
  refine x_ofW_v (own := RX0) (by decide) rfl rfl (Nat.le_of_ble_eq_true rfl) ?_
  intro p e s m args below meth c ls A QQ C hRet Z hl
  have hl : lv_has ls 3 [(0, .ref (aB 0)), (1, .ref (aT 0))] := hl
  unfold p_X0_refresh at hf
  refine lv_aload_n C.1 C.2.1 dX0_refresh_0 rfl (lv_at hl 0 rfl) ?_
  refine x_get C Z 0 rfl rfl i_X0_X0_refresh (k := 3) (by decide) (List.mem_of_getElem? (i := 1) rfl) rfl dX0_refresh_1 ?_
  refine lv_aload_n C.1 C.2.1 dX0_refresh_4 rfl (lv_at hl 1 rfl) ?_
  obtain ⟨r1, hr1, h2⟩ := bd_some hf
  clear hf
  refine x_callV_i_J (As := []) (rest := [.int (iI sB.version)]) (q0 := 0) (ws2 := wB g aB sB ++ wT g aT sT) C Z fr_BT_1 (k_X5_versionTaken l g n aT sT r1 hr1) gX0_refresh_X5_versionTaken yk_X5_versionTaken ⟨Nat.le_of_ble_eq_true rfl, Nat.le_of_ble_eq_true rfl⟩ rfl rfl ⟨Nat.zero_le _, Nat.zero_le _⟩ hl.1 rfl (Nat.le_of_ble_eq_true rfl) rfl dX0_refresh_5 (fun H locs Z => ?_)
  have q3 := (ck_some h2).1
  have h4 := (ck_some h2).2
  clear h2
  have q5 := (ck_some h4).1
  have h6 := (ck_some h4).2
  clear h4
  refine x_icmp_ne (tgt := 12) C dX0_refresh_8 (by decide) q3 q5 (fun c7 => ?_) (fun c7 => ?_)
  · have h8 := if_n h6 c7
    clear h6
    refine lv_aload_n C.1 C.2.1 dX0_refresh_12 rfl (lv_at hl 0 rfl) ?_
    refine lv_aload_n C.1 C.2.1 dX0_refresh_13 rfl (lv_at hl 1 rfl) ?_
    obtain ⟨r10, hr10, h11⟩ := bd_some h8
    clear h8
    refine x_callV_i_J (As := []) (rest := [.ref (aB 0)]) (q0 := 0) (ws2 := wB g aB sB ++ wT g aT sT) C Z fr_BT_1 (k_X5_versionTaken l g n aT sT r10 hr10) gX0_refresh_X5_versionTaken yk_X5_versionTaken ⟨Nat.le_of_ble_eq_true rfl, Nat.le_of_ble_eq_true rfl⟩ rfl rfl ⟨Nat.zero_le _, Nat.zero_le _⟩ hl.1 rfl (Nat.le_of_ble_eq_true rfl) rfl dX0_refresh_14 (fun H locs Z => ?_)
    refine x_put (ws2 := wB g aB (sB.starts, sB.shared, sB.size, r10) ++ wT g aT sT) C Z 0 rfl rfl i_X0_X0_refresh tyX0_ok nmX0 (k := 3) (by decide) (List.mem_of_getElem? (i := 1) rfl) rfl rfl (Nat.le_of_ble_eq_true rfl) dX0_refresh_17 rfl (fun H locs Z => ?_)
    refine lv_aload_n C.1 C.2.1 dX0_refresh_20 rfl (lv_at hl 0 rfl) ?_
    refine x_iconst C dX0_refresh_21 ?_
    refine x_put (ws2 := wB g aB (sB.starts, sB.shared, 0, r10) ++ wT g aT sT) C Z 0 rfl rfl i_X0_X0_refresh tyX0_ok nmX0 (k := 2) (by decide) (List.mem_of_getElem? (i := 2) rfl) rfl rfl (Nat.le_of_ble_eq_true rfl) dX0_refresh_22 rfl (fun H locs Z => ?_)
    refine lv_aload_n C.1 C.2.1 dX0_refresh_25 rfl (lv_at hl 1 rfl) ?_
    obtain ⟨r12, hr12, h13⟩ := bd_some h11
    clear h11
    refine x_callV_i_J (As := []) (rest := []) (q0 := 0) (ws2 := wB g aB (sB.starts, sB.shared, 0, r10) ++ wT g aT sT) C Z fr_BT_1 (k_X5_length l g n aT sT r12 hr12) gX0_refresh_X5_length yk_X5_length ⟨Nat.le_of_ble_eq_true rfl, Nat.le_of_ble_eq_true rfl⟩ rfl rfl ⟨Nat.zero_le _, Nat.zero_le _⟩ hl.1 rfl (Nat.le_of_ble_eq_true rfl) rfl dX0_refresh_26 (fun H locs Z => ?_)
    refine x_iconst C dX0_refresh_29 ?_
    refine x_isub C dX0_refresh_30 ?_
    refine lv_istore_n (lv' := [(2, .int (iI (r12 - 1))), (0, .ref (aB 0)), (1, .ref (aT 0))]) C.1 C.2.1 dX0_refresh_31 rfl hl (by decide) rfl (fun ls hl => ?_)
    obtain ⟨ex32, hl32, h30⟩ := bd_some h13
    clear h13
    have hK32 : ∀ (H : Heap) (locs : List Loc) (ls : Array Slot), xSt g A s (wB g aB ex32 ++ wT g aT sT) H locs → lv_has ls 3 [(0, .ref (aB 0)), (1, .ref (aT 0))] → W p l e rmX0_refresh s m args below meth c H locs 0 0 QQ (F0 m 48 ls []) := by
      intro H locs ls Z hl
      have h31 := h30
      clear h30
      refine x_iconst C dX0_refresh_48 ?_
      refine lv_istore_n (lv' := [(2, .int (iI 0)), (0, .ref (aB 0)), (1, .ref (aT 0))]) C.1 C.2.1 dX0_refresh_49 rfl hl (by decide) rfl (fun ls hl => ?_)
      obtain ⟨ex50, hl50, h70⟩ := bd_some h31
      clear h31
      have hK50 : ∀ (H : Heap) (locs : List Loc) (ls : Array Slot), xSt g A s (wB g aB (ex32.starts, ex50, ex32.size, ex32.version) ++ wT g aT sT) H locs → lv_has ls 3 [] → W p l e rmX0_refresh s m args below meth c H locs 0 0 QQ (F0 m 97 ls []) := by
        intro H locs ls Z hl
        have h71 := h70
        clear h70
        have h72 := Option.some.inj h71
        subst h72
        exact hRet _ _ _ _ Z dX0_refresh_97
      have hL50 : ∀ (k50 : Nat) (z50 : Int × Row) (H : Heap) (locs : List Loc) (ls : Array Slot), lp (p_X0_refresh_b50 n ex32 sT) k50 z50 = some ex50 → xSt g A s (wB g aB (ex32.starts, z50.2, ex32.size, ex32.version) ++ wT g aT sT) H locs → lv_has ls 3 [(0, .ref (aB 0)), (1, .ref (aT 0)), (2, .int (iI z50.1))] → W p l e rmX0_refresh s m args below meth c H locs 0 0 QQ (F0 m 50 ls []) := by
        intro k50
        induction k50 with
        | zero => intro z50 H locs ls h; exact (lp_0 h).elim
        | succ k50 ih50 =>
          intro z50 H locs ls h Z hl
          obtain ⟨x50, hb50, hx50⟩ := lp_s h
          clear h
          unfold p_X0_refresh_b50 at hb50
          refine lv_iload_n C.1 C.2.1 dX0_refresh_50 rfl (lv_at hl 2 rfl) ?_
          refine lv_aload_n C.1 C.2.1 dX0_refresh_51 rfl (lv_at hl 0 rfl) ?_
          refine x_get C Z 0 rfl rfl i_X0_X0_refresh (k := 2) (by decide) (List.mem_of_getElem? (i := 2) rfl) rfl dX0_refresh_52 ?_
          have q51 := (ck_some hb50).1
          have h52 := (ck_some hb50).2
          clear hb50
          have q53 := (ck_some h52).1
          have h54 := (ck_some h52).2
          clear h52
          refine x_icmp_ge (tgt := 97) C dX0_refresh_55 (by decide) q51 q53 (fun c55 => ?_) (fun c55 => ?_)
          · have h56 := if_n h54 c55
            clear h54
            cases h56
            have h58 := lp_R hx50
            subst h58
            exact hK50 _ _ _ Z (lv_sub hl [] rfl)
          · have h57 := if_p h54 c55
            clear h54
            refine lv_aload_n C.1 C.2.1 dX0_refresh_58 rfl (lv_at hl 0 rfl) ?_
            refine x_get C Z 0 rfl rfl i_X0_X0_refresh (k := 1) (by decide) (List.mem_of_getElem? (i := 3) rfl) rfl dX0_refresh_59 ?_
            refine lv_iload_n C.1 C.2.1 dX0_refresh_62 rfl (lv_at hl 2 rfl) ?_
            refine lv_iload_n C.1 C.2.1 dX0_refresh_63 rfl (lv_at hl 2 rfl) ?_
            refine x_if_ne (tgt := 71) C dX0_refresh_64 (by decide) q51 (fun c59 => ?_) (fun c59 => ?_)
            · have h60 := if_n h57 c59
              clear h57
              refine lv_aload_n C.1 C.2.1 dX0_refresh_71 rfl (lv_at hl 1 rfl) ?_
              refine lv_aload_n C.1 C.2.1 dX0_refresh_72 rfl (lv_at hl 0 rfl) ?_
              refine x_get C Z 0 rfl rfl i_X0_X0_refresh (k := 0) (by decide) (List.mem_of_getElem? (i := 4) rfl) rfl dX0_refresh_73 ?_
              refine lv_iload_n C.1 C.2.1 dX0_refresh_76 rfl (lv_at hl 2 rfl) ?_
              refine x_iconst C dX0_refresh_77 ?_
              refine x_isub C dX0_refresh_78 ?_
              have q62 := (ix_some h60).1
              have h63 := (ix_some h60).2
              clear h60
              refine x_iald C Z 1 rfl (by decide) q62 dX0_refresh_79 ?_
              refine lv_aload_n C.1 C.2.1 dX0_refresh_80 rfl (lv_at hl 1 rfl) ?_
              refine lv_aload_n C.1 C.2.1 dX0_refresh_81 rfl (lv_at hl 0 rfl) ?_
              refine x_get C Z 0 rfl rfl i_X0_X0_refresh (k := 0) (by decide) (List.mem_of_getElem? (i := 4) rfl) rfl dX0_refresh_82 ?_
              refine lv_iload_n C.1 C.2.1 dX0_refresh_85 rfl (lv_at hl 2 rfl) ?_
              have q64 := (ix_some h63).1
              have h65 := (ix_some h63).2
              clear h63
              refine x_iald C Z 1 rfl (by decide) q64 dX0_refresh_86 ?_
              obtain ⟨r66, hr66, h67⟩ := bd_some h65
              clear h65
              refine x_callV_i_J (As := [.int (iI (ex32.starts (z50.1 - 1))), .ref (aT 0), .int (iI (ex32.starts z50.1))]) (rest := [.int (iI z50.1), .ref (aB 2)]) (q0 := 0) (ws2 := wB g aB (ex32.starts, z50.2, ex32.size, ex32.version) ++ wT g aT sT) C Z fr_BT_1 (k_X5_sharedFroma l g n aT sT (ex32.starts (z50.1 - 1)) (ex32.starts z50.1) r66 hr66) gX0_refresh_X5_sharedFrom yk_X5_sharedFroma ⟨Nat.le_of_ble_eq_true rfl, Nat.le_of_ble_eq_true rfl⟩ rfl rfl ⟨Nat.zero_le _, Nat.zero_le _⟩ hl.1 rfl (Nat.le_of_ble_eq_true rfl) rfl dX0_refresh_87 (fun H locs Z => ?_)
              refine x_iast (ws2 := wB g aB (ex32.starts, up z50.2 z50.1 r66, ex32.size, ex32.version) ++ wT g aT sT) C Z 2 rfl (by decide) q64 dX0_refresh_90 rfl (fun H locs Z => ?_)
              refine x_iinc (lv' := [(2, .int (iI (z50.1 + 1))), (0, .ref (aB 0)), (1, .ref (aT 0))]) C dX0_refresh_91 hl (k := 2) rfl (by decide) rfl (fun ls hl => ?_)
              refine lv_goto (tgt := 50) C.1 C.2.1 dX0_refresh_94 (by decide) ?_
              cases h67
              exact ih50 (z50.1 + 1, up z50.2 z50.1 r66) _ _ _ (lp_L2 hx50) Z (lv_sub hl [1, 2, 0] rfl)
            · have h61 := if_p h57 c59
              clear h57
              refine x_iconst C dX0_refresh_67 ?_
              refine lv_goto (tgt := 90) C.1 C.2.1 dX0_refresh_68 (by decide) ?_
              have q68 := (ix_some h61).1
              have h69 := (ix_some h61).2
              clear h61
              refine x_iast (ws2 := wB g aB (ex32.starts, up z50.2 z50.1 0, ex32.size, ex32.version) ++ wT g aT sT) C Z 2 rfl (by decide) q68 dX0_refresh_90 rfl (fun H locs Z => ?_)
              refine x_iinc (lv' := [(2, .int (iI (z50.1 + 1))), (0, .ref (aB 0)), (1, .ref (aT 0))]) C dX0_refresh_91 hl (k := 2) rfl (by decide) rfl (fun ls hl => ?_)
              refine lv_goto (tgt := 50) C.1 C.2.1 dX0_refresh_94 (by decide) ?_
              cases h69
              exact ih50 (z50.1 + 1, up z50.2 z50.1 0) _ _ _ (lp_L2 hx50) Z (lv_sub hl [1, 2, 0] rfl)
      exact hL50 n (0, ex32.shared) _ _ _ hl50 Z (lv_sub hl [1, 2, 0] rfl)
    have hL32 : ∀ (k32 : Nat) (z32 : Int × BegS) (H : Heap) (locs : List Loc) (ls : Array Slot), lp (p_X0_refresh_b32 n sT) k32 z32 = some ex32 → xSt g A s (wB g aB z32.2 ++ wT g aT sT) H locs → lv_has ls 3 [(0, .ref (aB 0)), (1, .ref (aT 0)), (2, .int (iI z32.1))] → W p l e rmX0_refresh s m args below meth c H locs 0 0 QQ (F0 m 32 ls []) := by
      intro k32
      induction k32 with
      | zero => intro z32 H locs ls h; exact (lp_0 h).elim
      | succ k32 ih32 =>
        intro z32 H locs ls h Z hl
        obtain ⟨x32, hb32, hx32⟩ := lp_s h
        clear h
        unfold p_X0_refresh_b32 at hb32
        refine lv_iload_n C.1 C.2.1 dX0_refresh_32 rfl (lv_at hl 2 rfl) ?_
        have q22 := (ck_some hb32).1
        have h23 := (ck_some hb32).2
        clear hb32
        refine x_if_lt (tgt := 48) C dX0_refresh_33 (by decide) q22 (fun c24 => ?_) (fun c24 => ?_)
        · have h25 := if_p h23 c24
          clear h23
          cases h25
          have h27 := lp_R hx32
          subst h27
          exact hK32 _ _ _ Z (lv_sub hl [0, 1] rfl)
        · have h26 := if_n h23 c24
          clear h23
          refine lv_aload_n C.1 C.2.1 dX0_refresh_36 rfl (lv_at hl 0 rfl) ?_
          refine lv_aload_n C.1 C.2.1 dX0_refresh_37 rfl (lv_at hl 1 rfl) ?_
          refine lv_iload_n C.1 C.2.1 dX0_refresh_38 rfl (lv_at hl 2 rfl) ?_
          obtain ⟨r28, hr28, h29⟩ := bd_some h26
          clear h26
          refine x_callV_v_id (As := [.ref (aT 0), .int (iI z32.1)]) (rest := []) (q0 := 0) C Z (k_X0_insert l g n aB aT z32.2 sT z32.1 r28 hr28) gX0_refresh_X0_insert yk_X0_insert ⟨Nat.le_of_ble_eq_true rfl, Nat.le_of_ble_eq_true rfl⟩ rfl rfl ⟨Nat.zero_le _, Nat.zero_le _⟩ hl.1 rfl (Nat.le_of_ble_eq_true rfl) rfl dX0_refresh_39 (fun H locs Z => ?_)
          refine x_iinc (lv' := [(2, .int (iI (z32.1 + (-1)))), (0, .ref (aB 0)), (1, .ref (aT 0))]) C dX0_refresh_42 hl (k := 2) rfl (by decide) rfl (fun ls hl => ?_)
          refine lv_goto (tgt := 32) C.1 C.2.1 dX0_refresh_45 (by decide) ?_
          cases h29
          exact ih32 (z32.1 + (-1), r28) _ _ _ (lp_L2 hx32) Z (lv_sub hl [1, 2, 0] rfl)
    exact hL32 n (r12 - 1, (sB.starts, sB.shared, 0, r10)) _ _ _ hl32 Z (lv_sub hl [1, 2, 0] rfl)
  · have h9 := if_p h6 c7
    clear h6
    have h73 := Option.some.inj h9
    subst h73
    exact hRet _ _ _ _ Z dX0_refresh_11
