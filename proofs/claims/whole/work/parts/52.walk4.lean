abbrev rmX0_startAt : Room := { frames := 0, cells := 0, slots := 0, locals := 0 }
theorem yk_X0_startAt : xY yX0_startAt RX0 cX0_startAt 2 (some .int) wsX0_startAt rmX0_startAt 1 := ⟨⟨_, rfl⟩, by decide +kernel, rfl, rfl⟩
theorem i_X0_X0_startAt : ∀ w ∈ u_ws RX0 TX0 4, w ∈ wsX0_startAt := fun _ h => List.mem_cons_of_mem _ (List.mem_append_right _ h)
set_option maxHeartbeats 4000000 in
set_option maxRecDepth 100000 in
theorem k_X0_startAt (l : Launch) (g : xG) (n : Nat) (aB : Nat → Nat) (sB : BegS) (v1 : Int) (r : Int) (hf : p_X0_startAt sB v1 = some r) : xMi l yX0_startAt wsX0_startAt rmX0_startAt g [.ref (aB 0), .int (iI v1)] (wB g aB sB) (wB g aB sB) r := by
  refine x_ofW_i (own := RX0) (by decide) rfl rfl (Nat.le_of_ble_eq_true rfl) ?_
  intro p e s m args below meth c ls A QQ C hRet Z hl
  have hl : lv_has ls 2 [(0, .ref (aB 0)), (1, .int (iI v1))] := hl
  unfold p_X0_startAt at hf
  refine lv_iload_n C.1 C.2.1 dX0_startAt_0 rfl (lv_at hl 1 rfl) ?_
  have q1 := (ck_some hf).1
  have h2 := (ck_some hf).2
  clear hf
  refine x_if_lt (tgt := 21) C dX0_startAt_1 (by decide) q1 (fun c3 => ?_) (fun c3 => ?_)
  · have h4 := if_p h2 c3
    clear h2
    refine x_iconst C dX0_startAt_21 ?_
    have h6 := Option.some.inj h4
    subst h6
    exact hRet _ _ _ _ Z dX0_startAt_22
  · have h5 := if_n h2 c3
    clear h2
    refine lv_iload_n C.1 C.2.1 dX0_startAt_4 rfl (lv_at hl 1 rfl) ?_
    refine lv_aload_n C.1 C.2.1 dX0_startAt_5 rfl (lv_at hl 0 rfl) ?_
    refine x_get C Z 0 rfl rfl i_X0_X0_startAt (k := 2) (by decide) (List.mem_of_getElem? (i := 1) rfl) rfl dX0_startAt_6 ?_
    have q7 := (ck_some h5).1
    have h8 := (ck_some h5).2
    clear h5
    refine x_icmp_ge (tgt := 21) C dX0_startAt_9 (by decide) q1 q7 (fun c9 => ?_) (fun c9 => ?_)
    · have h10 := if_n h8 c9
      clear h8
      refine x_iconst C dX0_startAt_21 ?_
      have h12 := Option.some.inj h10
      subst h12
      exact hRet _ _ _ _ Z dX0_startAt_22
    · have h11 := if_p h8 c9
      clear h8
      refine lv_aload_n C.1 C.2.1 dX0_startAt_12 rfl (lv_at hl 0 rfl) ?_
      refine x_get C Z 0 rfl rfl i_X0_X0_startAt (k := 0) (by decide) (List.mem_of_getElem? (i := 2) rfl) rfl dX0_startAt_13 ?_
      refine lv_iload_n C.1 C.2.1 dX0_startAt_16 rfl (lv_at hl 1 rfl) ?_
      have q13 := (ix_some h11).1
      have h14 := (ix_some h11).2
      clear h11
      refine x_iald C Z 1 rfl (by decide) q13 dX0_startAt_17 ?_
      refine lv_goto (tgt := 22) C.1 C.2.1 dX0_startAt_18 (by decide) ?_
      have h15 := Option.some.inj h14
      subst h15
      exact hRet _ _ _ _ Z dX0_startAt_22
abbrev rmX0_sharedAt : Room := { frames := 0, cells := 0, slots := 0, locals := 0 }
theorem yk_X0_sharedAt : xY yX0_sharedAt RX0 cX0_sharedAt 2 (some .int) wsX0_sharedAt rmX0_sharedAt 1 := ⟨⟨_, rfl⟩, by decide +kernel, rfl, rfl⟩
theorem i_X0_X0_sharedAt : ∀ w ∈ u_ws RX0 TX0 4, w ∈ wsX0_sharedAt := fun _ h => List.mem_cons_of_mem _ (List.mem_append_right _ h)
set_option maxHeartbeats 4000000 in
set_option maxRecDepth 100000 in
theorem k_X0_sharedAt (l : Launch) (g : xG) (n : Nat) (aB : Nat → Nat) (sB : BegS) (v1 : Int) (r : Int) (hf : p_X0_sharedAt sB v1 = some r) : xMi l yX0_sharedAt wsX0_sharedAt rmX0_sharedAt g [.ref (aB 0), .int (iI v1)] (wB g aB sB) (wB g aB sB) r := by
  refine x_ofW_i (own := RX0) (by decide) rfl rfl (Nat.le_of_ble_eq_true rfl) ?_
  intro p e s m args below meth c ls A QQ C hRet Z hl
  have hl : lv_has ls 2 [(0, .ref (aB 0)), (1, .int (iI v1))] := hl
  unfold p_X0_sharedAt at hf
  refine lv_iload_n C.1 C.2.1 dX0_sharedAt_0 rfl (lv_at hl 1 rfl) ?_
  have q1 := (ck_some hf).1
  have h2 := (ck_some hf).2
  clear hf
  refine x_if_lt (tgt := 21) C dX0_sharedAt_1 (by decide) q1 (fun c3 => ?_) (fun c3 => ?_)
  · have h4 := if_p h2 c3
    clear h2
    refine x_iconst C dX0_sharedAt_21 ?_
    have h6 := Option.some.inj h4
    subst h6
    exact hRet _ _ _ _ Z dX0_sharedAt_22
  · have h5 := if_n h2 c3
    clear h2
    refine lv_iload_n C.1 C.2.1 dX0_sharedAt_4 rfl (lv_at hl 1 rfl) ?_
    refine lv_aload_n C.1 C.2.1 dX0_sharedAt_5 rfl (lv_at hl 0 rfl) ?_
    refine x_get C Z 0 rfl rfl i_X0_X0_sharedAt (k := 2) (by decide) (List.mem_of_getElem? (i := 1) rfl) rfl dX0_sharedAt_6 ?_
    have q7 := (ck_some h5).1
    have h8 := (ck_some h5).2
    clear h5
    refine x_icmp_ge (tgt := 21) C dX0_sharedAt_9 (by decide) q1 q7 (fun c9 => ?_) (fun c9 => ?_)
    · have h10 := if_n h8 c9
      clear h8
      refine x_iconst C dX0_sharedAt_21 ?_
      have h12 := Option.some.inj h10
      subst h12
      exact hRet _ _ _ _ Z dX0_sharedAt_22
    · have h11 := if_p h8 c9
      clear h8
      refine lv_aload_n C.1 C.2.1 dX0_sharedAt_12 rfl (lv_at hl 0 rfl) ?_
      refine x_get C Z 0 rfl rfl i_X0_X0_sharedAt (k := 1) (by decide) (List.mem_of_getElem? (i := 2) rfl) rfl dX0_sharedAt_13 ?_
      refine lv_iload_n C.1 C.2.1 dX0_sharedAt_16 rfl (lv_at hl 1 rfl) ?_
      have q13 := (ix_some h11).1
      have h14 := (ix_some h11).2
      clear h11
      refine x_iald C Z 2 rfl (by decide) q13 dX0_sharedAt_17 ?_
      refine lv_goto (tgt := 22) C.1 C.2.1 dX0_sharedAt_18 (by decide) ?_
      have h15 := Option.some.inj h14
      subst h15
      exact hRet _ _ _ _ Z dX0_sharedAt_22
abbrev rmX1_has : Room := { frames := 0, cells := 0, slots := 0, locals := 0 }
theorem yk_X1_has : xY yX1_has RX1 cX1_has 2 (some .boolean) wsX1_has rmX1_has 1 := ⟨⟨_, rfl⟩, by decide +kernel, rfl, rfl⟩
theorem i_X1_X1_has : ∀ w ∈ u_ws RX1 TX1 13, w ∈ wsX1_has := fun _ h => List.mem_cons_of_mem _ (List.mem_append_right _ h)
set_option maxHeartbeats 4000000 in
set_option maxRecDepth 100000 in
theorem k_X1_has (l : Launch) (g : xG) (n : Nat) (aC : Nat → Nat) (aK : Nat → Nat) (rr : Nat → Nat) (sC : ClsS) (sK : SwpS) (v1 : Int) (r : Int) (hf : p_X1_has sC v1 = some r) : xMi l yX1_has wsX1_has rmX1_has g [.ref (aC 0), .int (iI v1)] ((wC g aC (aK 0) rr sC ++ wS g aK sK) ++ wR g rr sC.classOf) ((wC g aC (aK 0) rr sC ++ wS g aK sK) ++ wR g rr sC.classOf) r := by
  refine x_ofW_z (own := RX1) (by decide) rfl rfl (Nat.le_of_ble_eq_true rfl) ?_
  intro p e s m args below meth c ls A QQ C hRet Z hl
  have hl : lv_has ls 2 [(0, .ref (aC 0)), (1, .int (iI v1))] := hl
  unfold p_X1_has at hf
  refine lv_iload_n C.1 C.2.1 dX1_has_0 rfl (lv_at hl 1 rfl) ?_
  have q1 := (ck_some hf).1
  have h2 := (ck_some hf).2
  clear hf
  refine x_if_lt (tgt := 16) C dX1_has_1 (by decide) q1 (fun c3 => ?_) (fun c3 => ?_)
  · have h4 := if_p h2 c3
    clear h2
    refine x_iconst C dX1_has_16 ?_
    have h6 := Option.some.inj h4
    subst h6
    exact hRet _ _ _ _ (x_bool (Or.inl rfl)) Z dX1_has_17
  · have h5 := if_n h2 c3
    clear h2
    refine lv_iload_n C.1 C.2.1 dX1_has_4 rfl (lv_at hl 1 rfl) ?_
    refine lv_aload_n C.1 C.2.1 dX1_has_5 rfl (lv_at hl 0 rfl) ?_
    refine x_get C Z 0 rfl rfl i_X1_X1_has (k := 11) (by decide) (List.mem_of_getElem? (i := 1) rfl) rfl dX1_has_6 ?_
    have q7 := (ck_some h5).1
    have h8 := (ck_some h5).2
    clear h5
    refine x_icmp_ge (tgt := 16) C dX1_has_9 (by decide) q1 q7 (fun c9 => ?_) (fun c9 => ?_)
    · have h10 := if_n h8 c9
      clear h8
      refine x_iconst C dX1_has_16 ?_
      have h12 := Option.some.inj h10
      subst h12
      exact hRet _ _ _ _ (x_bool (Or.inl rfl)) Z dX1_has_17
    · have h11 := if_p h8 c9
      clear h8
      refine x_iconst C dX1_has_12 ?_
      refine lv_goto (tgt := 17) C.1 C.2.1 dX1_has_13 (by decide) ?_
      have h13 := Option.some.inj h11
      subst h13
      exact hRet _ _ _ _ (x_bool (Or.inr rfl)) Z dX1_has_17
abbrev rmX1_endsIn : Room := { frames := 1, cells := 0, slots := 0, locals := 21 }
theorem yk_X1_endsIn : xY yX1_endsIn RX1 cX1_endsIn 2 (some .int) wsX1_endsIn rmX1_endsIn 1 := ⟨⟨_, rfl⟩, by decide +kernel, rfl, rfl⟩
theorem i_X1_X1_endsIn : ∀ w ∈ u_ws RX1 TX1 13, w ∈ wsX1_endsIn := fun _ h => List.mem_cons_of_mem _ (List.mem_append_right _ h)
set_option maxHeartbeats 4000000 in
set_option maxRecDepth 100000 in
theorem k_X1_endsIn (l : Launch) (g : xG) (n : Nat) (aC : Nat → Nat) (aK : Nat → Nat) (rr : Nat → Nat) (sC : ClsS) (sK : SwpS) (v1 : Int) (r : Int) (hf : p_X1_endsIn sC v1 = some r) : xMi l yX1_endsIn wsX1_endsIn rmX1_endsIn g [.ref (aC 0), .int (iI v1)] ((wC g aC (aK 0) rr sC ++ wS g aK sK) ++ wR g rr sC.classOf) ((wC g aC (aK 0) rr sC ++ wS g aK sK) ++ wR g rr sC.classOf) r := by
  refine x_ofW_i (own := RX1) (by decide) rfl rfl (Nat.le_of_ble_eq_true rfl) ?_
  intro p e s m args below meth c ls A QQ C hRet Z hl
  have hl : lv_has ls 2 [(0, .ref (aC 0)), (1, .int (iI v1))] := hl
  unfold p_X1_endsIn at hf
  refine lv_aload_n C.1 C.2.1 dX1_endsIn_0 rfl (lv_at hl 0 rfl) ?_
  refine lv_iload_n C.1 C.2.1 dX1_endsIn_1 rfl (lv_at hl 1 rfl) ?_
  obtain ⟨r1, hr1, h2⟩ := bd_some hf
  clear hf
  refine x_callV_i_id (As := [.int (iI v1)]) (rest := []) (q0 := 0) C Z (k_X1_has l g n aC aK rr sC sK v1 r1 hr1) gX1_endsIn_X1_has yk_X1_has ⟨Nat.le_of_ble_eq_true rfl, Nat.le_of_ble_eq_true rfl⟩ rfl rfl ⟨Nat.zero_le _, Nat.zero_le _⟩ hl.1 rfl (Nat.le_of_ble_eq_true rfl) rfl dX1_endsIn_2 (fun H locs Z => ?_)
  have q3 := (ck_some h2).1
  have h4 := (ck_some h2).2
  clear h2
  refine x_if_eq (tgt := 17) C dX1_endsIn_5 (by decide) q3 (fun c5 => ?_) (fun c5 => ?_)
  · have h6 := if_p h4 c5
    clear h4
    refine x_iconst C dX1_endsIn_17 ?_
    have h8 := Option.some.inj h6
    subst h8
    exact hRet _ _ _ _ Z dX1_endsIn_18
  · have h7 := if_n h4 c5
    clear h4
    refine lv_aload_n C.1 C.2.1 dX1_endsIn_8 rfl (lv_at hl 0 rfl) ?_
    refine x_get C Z 0 rfl rfl i_X1_X1_endsIn (k := 6) (by decide) (List.mem_of_getElem? (i := 1) rfl) rfl dX1_endsIn_9 ?_
    refine lv_iload_n C.1 C.2.1 dX1_endsIn_12 rfl (lv_at hl 1 rfl) ?_
    have q9 := (ix_some h7).1
    have h10 := (ix_some h7).2
    clear h7
    refine x_iald C Z 6 rfl (by decide) q9 dX1_endsIn_13 ?_
    refine lv_goto (tgt := 18) C.1 C.2.1 dX1_endsIn_14 (by decide) ?_
    have h11 := Option.some.inj h10
    subst h11
    exact hRet _ _ _ _ Z dX1_endsIn_18
abbrev rmX1_lengthWith : Room := { frames := 2, cells := 0, slots := 0, locals := 42 }
theorem yk_X1_lengthWith : xY yX1_lengthWith RX1 cX1_lengthWith 8 (some .int) wsX1_lengthWith rmX1_lengthWith 4 := ⟨⟨_, rfl⟩, by decide +kernel, rfl, rfl⟩
theorem i_X1_X1_lengthWith : ∀ w ∈ u_ws RX1 TX1 13, w ∈ wsX1_lengthWith := fun _ h => List.mem_cons_of_mem _ (List.mem_append_right _ h)
theorem i_X5_X1_lengthWith : ∀ w ∈ u_ws RX5 TX5 8, w ∈ wsX1_lengthWith := fun _ h => List.mem_cons_of_mem _ (List.mem_append_left _ (List.mem_append_right _ h))
set_option maxHeartbeats 4000000 in
set_option maxRecDepth 100000 in
theorem k_X1_lengthWith (l : Launch) (g : xG) (n : Nat) (aC : Nat → Nat) (aK : Nat → Nat) (aT : Nat → Nat) (rr : Nat → Nat) (sC : ClsS) (sK : SwpS) (sT : TxtS) (v2 : Int) (v3 : Int) (v4 : Int) (r : Int) (hf : p_X1_lengthWith n sC sT v2 v3 v4 = some r) : xMi l yX1_lengthWith wsX1_lengthWith rmX1_lengthWith g [.ref (aC 0), .ref (aT 0), .int (iI v2), .int (iI v3), .int (iI v4)] ((wC g aC (aK 0) rr sC ++ (wS g aK sK ++ wT g aT sT)) ++ wR g rr sC.classOf) ((wC g aC (aK 0) rr sC ++ (wS g aK sK ++ wT g aT sT)) ++ wR g rr sC.classOf) r := by
  refine x_ofW_i (own := RX1) (by decide) rfl rfl (Nat.le_of_ble_eq_true rfl) ?_
  intro p e s m args below meth c ls A QQ C hRet Z hl
  have hl : lv_has ls 8 [(0, .ref (aC 0)), (1, .ref (aT 0)), (2, .int (iI v2)), (3, .int (iI v3)), (4, .int (iI v4))] := hl
  unfold p_X1_lengthWith at hf
  refine lv_iload C.1 C.2.1 dX1_lengthWith_0 (lv_at hl 4 rfl) ?_
  refine x_iconst C dX1_lengthWith_2 ?_
  refine x_isub C dX1_lengthWith_3 ?_
  refine lv_istore (lv' := [(5, .int (iI (v4 - 1))), (0, .ref (aC 0)), (1, .ref (aT 0)), (2, .int (iI v2)), (3, .int (iI v3)), (4, .int (iI v4))]) C.1 C.2.1 dX1_lengthWith_4 hl (by decide) rfl (fun ls hl => ?_)
  refine lv_aload_n C.1 C.2.1 dX1_lengthWith_6 rfl (lv_at hl 2 rfl) ?_
  refine lv_iload_n C.1 C.2.1 dX1_lengthWith_7 rfl (lv_at hl 4 rfl) ?_
  obtain ⟨r1, hr1, h2⟩ := bd_some hf
  clear hf
  refine x_callV_i_Q (As := [.int (iI v3)]) (rest := []) (q0 := 0) (X2 := (wC g aC (aK 0) rr sC ++ (wS g aK sK ++ wT g aT sT))) C Z fr_CKT_2 (k_X5_lettersFrom l g n aT sT v3 r1 hr1) gX1_lengthWith_X5_lettersFrom yk_X5_lettersFrom ⟨Nat.le_of_ble_eq_true rfl, Nat.le_of_ble_eq_true rfl⟩ rfl rfl ⟨Nat.zero_le _, Nat.zero_le _⟩ hl.1 rfl (Nat.le_of_ble_eq_true rfl) rfl dX1_lengthWith_8 (fun H locs Z => ?_)
  refine lv_istore (lv' := [(6, .int (iI r1)), (5, .int (iI (v4 - 1))), (0, .ref (aC 0)), (1, .ref (aT 0)), (2, .int (iI v2)), (3, .int (iI v3)), (4, .int (iI v4))]) C.1 C.2.1 dX1_lengthWith_11 hl (by decide) rfl (fun ls hl => ?_)
  refine lv_iload C.1 C.2.1 dX1_lengthWith_13 (lv_at hl 6 rfl) ?_
  refine lv_istore (lv' := [(7, .int (iI v4)), (6, .int (iI r1)), (5, .int (iI (v4 - 1))), (0, .ref (aC 0)), (1, .ref (aT 0)), (2, .int (iI v2)), (3, .int (iI v3)), (4, .int (iI v4))]) C.1 C.2.1 dX1_lengthWith_15 hl (by decide) rfl (fun ls hl => ?_)
  obtain ⟨ex17, hl17, h39⟩ := bd_some h2
  clear h2
  have hK17 : ∀ (e17 : Int) (H : Heap) (locs : List Loc) (ls : Array Slot), ex17 = .inr e17 → xSt g A s ((wC g aC (aK 0) rr sC ++ (wS g aK sK ++ wT g aT sT)) ++ wR g rr sC.classOf) H locs → lv_has ls 8 [(5, .int (iI e17))] → W p l e rmX1_lengthWith s m args below meth c H locs 0 0 QQ (F0 m 57 ls []) := by
    intro e17 H locs ls he Z hl
    subst he
    have h40 := (Sum.elim_inr ..).symm.trans h39
    clear h39
    refine lv_iload C.1 C.2.1 dX1_lengthWith_57 (lv_at hl 0 rfl) ?_
    have h41 := Option.some.inj h40
    subst h41
    exact hRet _ _ _ _ Z dX1_lengthWith_59
  have hL17 : ∀ (k17 : Nat) (z17 : Int × Int) (H : Heap) (locs : List Loc) (ls : Array Slot), lp (p_X1_lengthWith_b17 n sC v2 v3 r1) k17 z17 = some ex17 → xSt g A s ((wC g aC (aK 0) rr sC ++ (wS g aK sK ++ wT g aT sT)) ++ wR g rr sC.classOf) H locs → lv_has ls 8 [(0, .ref (aC 0)), (2, .int (iI v2)), (3, .int (iI v3)), (5, .int (iI z17.1)), (6, .int (iI r1)), (7, .int (iI z17.2))] → W p l e rmX1_lengthWith s m args below meth c H locs 0 0 QQ (F0 m 17 ls []) := by
    intro k17
    induction k17 with
    | zero => intro z17 H locs ls h; exact (lp_0 h).elim
    | succ k17 ih17 =>
      intro z17 H locs ls h Z hl
      obtain ⟨x17, hb17, hx17⟩ := lp_s h
      clear h
      unfold p_X1_lengthWith_b17 at hb17
      refine lv_iload C.1 C.2.1 dX1_lengthWith_17 (lv_at hl 5 rfl) ?_
      refine lv_iload C.1 C.2.1 dX1_lengthWith_19 (lv_at hl 4 rfl) ?_
      have q21 := (ck_some hb17).1
      have h22 := (ck_some hb17).2
      clear hb17
      have q23 := (ck_some h22).1
      have h24 := (ck_some h22).2
      clear h22
      refine x_icmp_gt (tgt := 57) C dX1_lengthWith_21 (by decide) q21 q23 (fun c25 => ?_) (fun c25 => ?_)
      · have h26 := if_p h24 c25
        clear h24
        cases h26
        exact hK17 z17.1 _ _ _ (lp_R hx17).symm Z (lv_sub hl [3] rfl)
      · have h27 := if_n h24 c25
        clear h24
        refine lv_aload_n C.1 C.2.1 dX1_lengthWith_24 rfl (lv_at hl 0 rfl) ?_
        refine lv_aload_n C.1 C.2.1 dX1_lengthWith_25 rfl (lv_at hl 0 rfl) ?_
        refine lv_iload_n C.1 C.2.1 dX1_lengthWith_26 rfl (lv_at hl 2 rfl) ?_
        refine lv_iload C.1 C.2.1 dX1_lengthWith_27 (lv_at hl 5 rfl) ?_
        refine x_iadd C dX1_lengthWith_29 ?_
        refine x_iconst C dX1_lengthWith_30 ?_
        refine x_isub C dX1_lengthWith_31 ?_
        refine lv_iload C.1 C.2.1 dX1_lengthWith_32 (lv_at hl 5 rfl) ?_
        obtain ⟨r28, hr28, h29⟩ := bd_some h27
        clear h27
        refine x_callV_i_P (As := [.int (iI ((v3 + z17.2) - 1)), .int (iI z17.2)]) (rest := [.ref (aC 0)]) (q0 := 0) (X2 := (wC g aC (aK 0) rr sC ++ (wS g aK sK ++ wT g aT sT))) C Z fr_CKT_0_1 (k_X1_classAt l g n aC aK rr sC sK ((v3 + z17.2) - 1) z17.2 r28 hr28) gX1_lengthWith_X1_classAt yk_X1_classAt ⟨Nat.le_of_ble_eq_true rfl, Nat.le_of_ble_eq_true rfl⟩ rfl rfl ⟨Nat.zero_le _, Nat.zero_le _⟩ hl.1 rfl (Nat.le_of_ble_eq_true rfl) rfl dX1_lengthWith_34 (fun H locs Z => ?_)
        obtain ⟨r30, hr30, h31⟩ := bd_some h29
        clear h29
        refine x_callV_i_P (As := [.int (iI r28)]) (rest := []) (q0 := 0) (X2 := (wC g aC (aK 0) rr sC ++ (wS g aK sK ++ wT g aT sT))) C Z fr_CKT_0_1 (k_X1_endsIn l g n aC aK rr sC sK r28 r30 hr30) gX1_lengthWith_X1_endsIn yk_X1_endsIn ⟨Nat.le_of_ble_eq_true rfl, Nat.le_of_ble_eq_true rfl⟩ rfl rfl ⟨Nat.zero_le _, Nat.zero_le _⟩ hl.1 rfl (Nat.le_of_ble_eq_true rfl) rfl dX1_lengthWith_37 (fun H locs Z => ?_)
        refine lv_iload_n C.1 C.2.1 dX1_lengthWith_40 rfl (lv_at hl 1 rfl) ?_
        have q32 := (ck_some h31).1
        have h33 := (ck_some h31).2
        clear h31
        have q34 := (ck_some h33).1
        have h35 := (ck_some h33).2
        clear h33
        refine x_icmp_ge (tgt := 47) C dX1_lengthWith_41 (by decide) q32 q34 (fun c36 => ?_) (fun c36 => ?_)
        · have h37 := if_n h35 c36
          clear h35
          refine lv_iload C.1 C.2.1 dX1_lengthWith_47 (lv_at hl 5 rfl) ?_
          refine lv_istore (lv' := [(5, .int (iI z17.2)), (0, .ref (aC 0)), (2, .int (iI v2)), (3, .int (iI v3)), (6, .int (iI r1)), (7, .int (iI z17.2))]) C.1 C.2.1 dX1_lengthWith_49 hl (by decide) rfl (fun ls hl => ?_)
          refine x_iinc (lv' := [(7, .int (iI (z17.2 + 1))), (5, .int (iI z17.2)), (0, .ref (aC 0)), (2, .int (iI v2)), (3, .int (iI v3)), (6, .int (iI r1))]) C dX1_lengthWith_51 hl (k := 5) rfl (by decide) rfl (fun ls hl => ?_)
          refine lv_goto (tgt := 17) C.1 C.2.1 dX1_lengthWith_54 (by decide) ?_
          cases h37
          exact ih17 (z17.2, z17.2 + 1) _ _ _ (lp_L2 hx17) Z (lv_sub hl [2, 3, 4, 1, 5, 0] rfl)
        · have h38 := if_p h35 c36
          clear h35
          refine lv_goto (tgt := 57) C.1 C.2.1 dX1_lengthWith_44 (by decide) ?_
          cases h38
          exact hK17 z17.1 _ _ _ (lp_R hx17).symm Z (lv_sub hl [3] rfl)
  exact hL17 n (v4 - 1, v4) _ _ _ hl17 Z (lv_sub hl [3, 5, 6, 2, 1, 0] rfl)
abbrev rmX3_write : Room := { frames := 2, cells := 0, slots := 0, locals := 42 }
theorem yk_X3_write : xY yX3_write RX3 cX3_write 5 none wsX3_write rmX3_write 3 := ⟨⟨_, rfl⟩, by decide +kernel, rfl, rfl⟩
theorem i_X3_X3_write : ∀ w ∈ u_ws RX3 TX3 2, w ∈ wsX3_write := fun _ h => List.mem_cons_of_mem _ (List.mem_append_left _ (List.mem_append_right _ h))
theorem i_X5_X3_write : ∀ w ∈ u_ws RX5 TX5 8, w ∈ wsX3_write := fun _ h => List.mem_cons_of_mem _ (List.mem_append_right _ h)
set_option maxHeartbeats 4000000 in
set_option maxRecDepth 100000 in
theorem k_X3_write (l : Launch) (g : xG) (n : Nat) (aP : Nat → Nat) (aT : Nat → Nat) (sP : PadS) (sT : TxtS) (v2 : Int) (v3 : Int) (r : PadS) (hf : p_X3_write n sP sT v2 v3 = some r) : xMv l yX3_write wsX3_write rmX3_write g [.ref (aP 0), .ref (aT 0), .int (iI v2), .int (iI v3)] (wP g aP sP ++ wT g aT sT) (wP g aP r ++ wT g aT sT) := by
  refine x_ofW_v (own := RX3) (by decide) rfl rfl (Nat.le_of_ble_eq_true rfl) ?_
  intro p e s m args below meth c ls A QQ C hRet Z hl
  have hl : lv_has ls 5 [(0, .ref (aP 0)), (1, .ref (aT 0)), (2, .int (iI v2)), (3, .int (iI v3))] := hl
  unfold p_X3_write at hf
  refine lv_aload_n C.1 C.2.1 dX3_write_0 rfl (lv_at hl 0 rfl) ?_
  obtain ⟨r1, hr1, h2⟩ := bd_some hf
  clear hf
  refine x_callV_v_J (As := []) (rest := []) (q0 := 0) (ws2 := wP g aP r1 ++ wT g aT sT) C Z fr_PT_0 (k_X3_clear l g n aP sP r1 hr1) gX3_write_X3_clear yk_X3_clear ⟨Nat.le_of_ble_eq_true rfl, Nat.le_of_ble_eq_true rfl⟩ rfl rfl ⟨Nat.zero_le _, Nat.zero_le _⟩ hl.1 rfl (Nat.le_of_ble_eq_true rfl) rfl dX3_write_1 (fun H locs Z => ?_)
  refine x_iconst C dX3_write_4 ?_
  refine lv_istore (lv' := [(4, .int (iI 0)), (0, .ref (aP 0)), (1, .ref (aT 0)), (2, .int (iI v2)), (3, .int (iI v3))]) C.1 C.2.1 dX3_write_5 hl (by decide) rfl (fun ls hl => ?_)
  obtain ⟨ex7, hl7, h27⟩ := bd_some h2
  clear h2
  have hK7 : ∀ (H : Heap) (locs : List Loc) (ls : Array Slot), xSt g A s (wP g aP ex7 ++ wT g aT sT) H locs → lv_has ls 5 [] → W p l e rmX3_write s m args below meth c H locs 0 0 QQ (F0 m 34 ls []) := by
    intro H locs ls Z hl
    have h28 := h27
    clear h27
    have h29 := Option.some.inj h28
    subst h29
    exact hRet _ _ _ _ Z dX3_write_34
  have hL7 : ∀ (k7 : Nat) (z7 : Int × PadS) (H : Heap) (locs : List Loc) (ls : Array Slot), lp (p_X3_write_b7 n sT v2 v3) k7 z7 = some ex7 → xSt g A s (wP g aP z7.2 ++ wT g aT sT) H locs → lv_has ls 5 [(0, .ref (aP 0)), (1, .ref (aT 0)), (2, .int (iI v2)), (3, .int (iI v3)), (4, .int (iI z7.1))] → W p l e rmX3_write s m args below meth c H locs 0 0 QQ (F0 m 7 ls []) := by
    intro k7
    induction k7 with
    | zero => intro z7 H locs ls h; exact (lp_0 h).elim
    | succ k7 ih7 =>
      intro z7 H locs ls h Z hl
      obtain ⟨x7, hb7, hx7⟩ := lp_s h
      clear h
      unfold p_X3_write_b7 at hb7
      refine lv_iload C.1 C.2.1 dX3_write_7 (lv_at hl 4 rfl) ?_
      refine lv_iload_n C.1 C.2.1 dX3_write_9 rfl (lv_at hl 3 rfl) ?_
      have q15 := (ck_some hb7).1
      have h16 := (ck_some hb7).2
      clear hb7
      have q17 := (ck_some h16).1
      have h18 := (ck_some h16).2
      clear h16
      refine x_icmp_ge (tgt := 34) C dX3_write_10 (by decide) q15 q17 (fun c19 => ?_) (fun c19 => ?_)
      · have h20 := if_n h18 c19
        clear h18
        cases h20
        have h22 := lp_R hx7
        subst h22
        exact hK7 _ _ _ Z (lv_sub hl [] rfl)
      · have h21 := if_p h18 c19
        clear h18
        refine lv_aload_n C.1 C.2.1 dX3_write_13 rfl (lv_at hl 0 rfl) ?_
        refine x_bipush C dX3_write_14 (by decide) ?_
        refine lv_aload_n C.1 C.2.1 dX3_write_16 rfl (lv_at hl 1 rfl) ?_
        refine lv_iload_n C.1 C.2.1 dX3_write_17 rfl (lv_at hl 2 rfl) ?_
        refine lv_iload C.1 C.2.1 dX3_write_18 (lv_at hl 4 rfl) ?_
        refine x_iadd C dX3_write_20 ?_
        obtain ⟨r23, hr23, h24⟩ := bd_some h21
        clear h21
        refine x_callV_i_J (As := [.int (iI (v2 + z7.1))]) (rest := [.int (iI 97), .ref (aP 0)]) (q0 := 0) (ws2 := wP g aP z7.2 ++ wT g aT sT) C Z fr_PT_1 (k_X5_letterAt l g n aT sT (v2 + z7.1) r23 hr23) gX3_write_X5_letterAt yk_X5_letterAt ⟨Nat.le_of_ble_eq_true rfl, Nat.le_of_ble_eq_true rfl⟩ rfl rfl ⟨Nat.zero_le _, Nat.zero_le _⟩ hl.1 rfl (Nat.le_of_ble_eq_true rfl) rfl dX3_write_21 (fun H locs Z => ?_)
        refine x_iadd C dX3_write_24 ?_
        obtain ⟨r25, hr25, h26⟩ := bd_some h24
        clear h24
        refine x_callV_v_J (As := [.int (iI (97 + r23))]) (rest := []) (q0 := 0) (ws2 := wP g aP r25 ++ wT g aT sT) C Z fr_PT_0 (k_X3_add l g n aP z7.2 (97 + r23) r25 hr25) gX3_write_X3_add yk_X3_add ⟨Nat.le_of_ble_eq_true rfl, Nat.le_of_ble_eq_true rfl⟩ rfl rfl ⟨Nat.zero_le _, Nat.zero_le _⟩ hl.1 rfl (Nat.le_of_ble_eq_true rfl) rfl dX3_write_25 (fun H locs Z => ?_)
        refine x_iinc (lv' := [(4, .int (iI (z7.1 + 1))), (0, .ref (aP 0)), (1, .ref (aT 0)), (2, .int (iI v2)), (3, .int (iI v3))]) C dX3_write_28 hl (k := 4) rfl (by decide) rfl (fun ls hl => ?_)
        refine lv_goto (tgt := 7) C.1 C.2.1 dX3_write_31 (by decide) ?_
        cases h26
        exact ih7 (z7.1 + 1, r25) _ _ _ (lp_L2 hx7) Z (lv_sub hl [1, 2, 3, 4, 0] rfl)
  exact hL7 n (0, r1) _ _ _ hl7 Z (lv_sub hl [1, 2, 3, 4, 0] rfl)
abbrev rmX6_write : Room := { frames := 3, cells := 0, slots := 0, locals := 66 }
theorem yk_X6_write : xY yX6_write RX6 cX6_write 3 (some .int) wsX6_write rmX6_write 2 := ⟨⟨_, rfl⟩, by decide +kernel, rfl, rfl⟩
theorem i_X3_X6_write : ∀ w ∈ u_ws RX3 TX3 2, w ∈ wsX6_write := fun _ h => List.mem_cons_of_mem _ (List.mem_append_left _ (List.mem_append_right _ h))
theorem i_X5_X6_write : ∀ w ∈ u_ws RX5 TX5 8, w ∈ wsX6_write := fun _ h => List.mem_cons_of_mem _ (List.mem_append_right _ h)
theorem i_X6_X6_write : ∀ w ∈ u_ws RX6 TX6 11, w ∈ wsX6_write := fun _ h => List.mem_cons_of_mem _ (List.mem_append_left _ (List.mem_append_left _ (List.mem_append_right _ h)))
set_option maxHeartbeats 4000000 in
set_option maxRecDepth 100000 in
theorem k_X6_write (l : Launch) (g : xG) (n : Nat) (aF : Nat → Nat) (aH : Nat → Nat) (aP : Nat → Nat) (aT : Nat → Nat) (aC : Nat → Nat) (aK : Nat → Nat) (aB : Nat → Nat) (aQ : Nat → Nat) (aU : Nat → Nat) (aV : Nat → Nat) (aS : Nat → Nat) (aR : Nat → Nat) (rr : Nat → Nat) (sF : Int) (sH : HisS) (sP : PadS) (sT : TxtS) (sC : ClsS) (sK : SwpS) (sB : BegS) (sQ : TxtS) (sU : TxtS) (sV : TxtS) (sS : SwpS) (sR : SwpS) (v1 : Int) (v2 : Int) (r : Int × PadS) (hf : p_X6_write n sP sT v1 v2 = some r) : xMi l yX6_write wsX6_write rmX6_write g [.ref (aF 0), .int (iI v1), .int (iI v2)] ((wF g aF (aH 0) (aP 0) (aT 0) (aC 0) (aB 0) (aQ 0) (aU 0) (aV 0) (aS 0) (aR 0) sF ++ (wH g aH sH ++ (wP g aP sP ++ (wT g aT sT ++ (wC g aC (aK 0) rr sC ++ (wS g aK sK ++ (wB g aB sB ++ (wT g aQ sQ ++ (wT g aU sU ++ (wT g aV sV ++ (wS g aS sS ++ wS g aR sR))))))))))) ++ wR g rr sC.classOf) ((wF g aF (aH 0) (aP 0) (aT 0) (aC 0) (aB 0) (aQ 0) (aU 0) (aV 0) (aS 0) (aR 0) sF ++ (wH g aH sH ++ (wP g aP r.2 ++ (wT g aT sT ++ (wC g aC (aK 0) rr sC ++ (wS g aK sK ++ (wB g aB sB ++ (wT g aQ sQ ++ (wT g aU sU ++ (wT g aV sV ++ (wS g aS sS ++ wS g aR sR))))))))))) ++ wR g rr sC.classOf) r.1 := by
  refine x_ofW_i (own := RX6) (by decide) rfl rfl (Nat.le_of_ble_eq_true rfl) ?_
  intro p e s m args below meth c ls A QQ C hRet Z hl
  have hl : lv_has ls 3 [(0, .ref (aF 0)), (1, .int (iI v1)), (2, .int (iI v2))] := hl
  unfold p_X6_write at hf
  refine lv_aload_n C.1 C.2.1 dX6_write_0 rfl (lv_at hl 0 rfl) ?_
  refine x_get C Z 0 rfl rfl i_X6_X6_write (k := 1) (by decide) (List.mem_of_getElem? (i := 1) rfl) rfl dX6_write_1 ?_
  refine lv_aload_n C.1 C.2.1 dX6_write_4 rfl (lv_at hl 0 rfl) ?_
  refine x_get C Z 0 rfl rfl i_X6_X6_write (k := 2) (by decide) (List.mem_of_getElem? (i := 2) rfl) rfl dX6_write_5 ?_
  refine lv_iload_n C.1 C.2.1 dX6_write_8 rfl (lv_at hl 1 rfl) ?_
  refine lv_iload_n C.1 C.2.1 dX6_write_9 rfl (lv_at hl 2 rfl) ?_
  obtain ⟨r1, hr1, h2⟩ := bd_some hf
  clear hf
  refine x_callV_v_Q (As := [.ref (aT 0), .int (iI v1), .int (iI v2)]) (rest := []) (q0 := 0) (X2 := (wF g aF (aH 0) (aP 0) (aT 0) (aC 0) (aB 0) (aQ 0) (aU 0) (aV 0) (aS 0) (aR 0) sF ++ (wH g aH sH ++ (wP g aP r1 ++ (wT g aT sT ++ (wC g aC (aK 0) rr sC ++ (wS g aK sK ++ (wB g aB sB ++ (wT g aQ sQ ++ (wT g aU sU ++ (wT g aV sV ++ (wS g aS sS ++ wS g aR sR)))))))))))) C Z fr_FHPTCKBQUVSR_2_3 (k_X3_write l g n aP aT sP sT v1 v2 r1 hr1) gX6_write_X3_write yk_X3_write ⟨Nat.le_of_ble_eq_true rfl, Nat.le_of_ble_eq_true rfl⟩ rfl rfl ⟨Nat.zero_le _, Nat.zero_le _⟩ hl.1 rfl (Nat.le_of_ble_eq_true rfl) rfl dX6_write_10 (fun H locs Z => ?_)
  refine lv_iload_n C.1 C.2.1 dX6_write_13 rfl (lv_at hl 2 rfl) ?_
  have h3 := Option.some.inj h2
  subst h3
  exact hRet _ _ _ _ Z dX6_write_14
abbrev rmX6_kth : Room := { frames := 6, cells := 0, slots := 0, locals := 139 }
theorem yk_X6_kth : xY yX6_kth RX6 cX6_kth 8 (some .int) wsX6_kth rmX6_kth 2 := ⟨⟨_, rfl⟩, by decide +kernel, rfl, rfl⟩
theorem i_X0_X6_kth : ∀ w ∈ u_ws RX0 TX0 4, w ∈ wsX6_kth := fun _ h => List.mem_cons_of_mem _ (List.mem_append_left _ (List.mem_append_right _ h))
theorem i_X1_X6_kth : ∀ w ∈ u_ws RX1 TX1 13, w ∈ wsX6_kth := fun _ h => List.mem_cons_of_mem _ (List.mem_append_left _ (List.mem_append_left _ (List.mem_append_left _ (List.mem_append_right _ h))))
theorem i_X2_X6_kth : ∀ w ∈ u_ws RX2 TX2 5, w ∈ wsX6_kth := fun _ h => List.mem_cons_of_mem _ (List.mem_append_left _ (List.mem_append_left _ (List.mem_append_left _ (List.mem_append_left _ (List.mem_append_right _ h)))))
theorem i_X3_X6_kth : ∀ w ∈ u_ws RX3 TX3 2, w ∈ wsX6_kth := fun _ h => List.mem_cons_of_mem _ (List.mem_append_right _ h)
theorem i_X4_X6_kth : ∀ w ∈ u_ws RX4 TX4 1, w ∈ wsX6_kth := fun _ h => List.mem_cons_of_mem _ (List.mem_append_left _ (List.mem_append_left _ (List.mem_append_right _ h)))
theorem i_X5_X6_kth : ∀ w ∈ u_ws RX5 TX5 8, w ∈ wsX6_kth := fun _ h => List.mem_cons_of_mem _ (List.mem_append_left _ (List.mem_append_left _ (List.mem_append_left _ (List.mem_append_left _ (List.mem_append_left _ (List.mem_append_right _ h))))))
theorem i_X6_X6_kth : ∀ w ∈ u_ws RX6 TX6 11, w ∈ wsX6_kth := fun _ h => List.mem_cons_of_mem _ (List.mem_append_left _ (List.mem_append_left _ (List.mem_append_left _ (List.mem_append_left _ (List.mem_append_left _ (List.mem_append_left _ (List.mem_append_right _ h)))))))
set_option maxHeartbeats 4000000 in
set_option maxRecDepth 100000 in
theorem k_X6_kth (l : Launch) (g : xG) (n : Nat) (aF : Nat → Nat) (aH : Nat → Nat) (aP : Nat → Nat) (aT : Nat → Nat) (aC : Nat → Nat) (aK : Nat → Nat) (aB : Nat → Nat) (aQ : Nat → Nat) (aU : Nat → Nat) (aV : Nat → Nat) (aS : Nat → Nat) (aR : Nat → Nat) (rr : Nat → Nat) (sF : Int) (sH : HisS) (sP : PadS) (sT : TxtS) (sC : ClsS) (sK : SwpS) (sB : BegS) (sQ : TxtS) (sU : TxtS) (sV : TxtS) (sS : SwpS) (sR : SwpS) (v1 : Int) (v2 : Int) (r : Int × PadS × TxtS × ClsS × SwpS × BegS) (hf : p_X6_kth n sF sH sP sT sC sK sB v1 v2 = some r) : xMi l yX6_kth wsX6_kth rmX6_kth g [.ref (aF 0), .int (iI v1), .int (iI v2)] ((wF g aF (aH 0) (aP 0) (aT 0) (aC 0) (aB 0) (aQ 0) (aU 0) (aV 0) (aS 0) (aR 0) sF ++ (wH g aH sH ++ (wP g aP sP ++ (wT g aT sT ++ (wC g aC (aK 0) rr sC ++ (wS g aK sK ++ (wB g aB sB ++ (wT g aQ sQ ++ (wT g aU sU ++ (wT g aV sV ++ (wS g aS sS ++ wS g aR sR))))))))))) ++ wR g rr sC.classOf) ((wF g aF (aH 0) (aP 0) (aT 0) (aC 0) (aB 0) (aQ 0) (aU 0) (aV 0) (aS 0) (aR 0) sF ++ (wH g aH sH ++ (wP g aP r.2.1 ++ (wT g aT r.2.2.1 ++ (wC g aC (aK 0) rr r.2.2.2.1 ++ (wS g aK r.2.2.2.2.1 ++ (wB g aB r.2.2.2.2.2 ++ (wT g aQ sQ ++ (wT g aU sU ++ (wT g aV sV ++ (wS g aS sS ++ wS g aR sR))))))))))) ++ wR g rr r.2.2.2.1.classOf) r.1 := by
  refine x_ofW_i (own := RX6) (by decide) rfl rfl (Nat.le_of_ble_eq_true rfl) ?_
  intro p e s m args below meth c ls A QQ C hRet Z hl
  have hl : lv_has ls 8 [(0, .ref (aF 0)), (1, .int (iI v1)), (2, .int (iI v2))] := hl
  unfold p_X6_kth at hf
  refine lv_iload_n C.1 C.2.1 dX6_kth_0 rfl (lv_at hl 1 rfl) ?_
  obtain ⟨r1, hr1, h2⟩ := bd_some hf
  clear hf
  refine x_callS_i (As := [.int (iI v1)]) (rest := []) C Z (k_X6_isEndCount l g n v1 r1 hr1) gX6_kth_X6_isEndCount yk_X6_isEndCount ⟨Nat.le_of_ble_eq_true rfl, Nat.le_of_ble_eq_true rfl⟩ ⟨Nat.zero_le _, Nat.zero_le _⟩ hl.1 rfl (Nat.le_of_ble_eq_true rfl) rfl dX6_kth_1 (fun H locs Z => ?_)
  have q3 := (ck_some h2).1
  have h4 := (ck_some h2).2
  clear h2
  refine x_if_ne (tgt := 10) C dX6_kth_4 (by decide) q3 (fun c5 => ?_) (fun c5 => ?_)
  · have h6 := if_n h4 c5
    clear h4
    refine lv_aload_n C.1 C.2.1 dX6_kth_10 rfl (lv_at hl 0 rfl) ?_
    obtain ⟨r8, hr8, h9⟩ := bd_some h6
    clear h6
    refine x_callV_v_id (As := []) (rest := []) (q0 := 0) C Z (k_X6_showClasses l g n aF aH aP aT aC aK aB aQ aU aV aS aR rr sF sH sP sT sC sK sB sQ sU sV sS sR r8 hr8) gX6_kth_X6_showClasses yk_X6_showClasses ⟨Nat.le_of_ble_eq_true rfl, Nat.le_of_ble_eq_true rfl⟩ rfl rfl ⟨Nat.zero_le _, Nat.zero_le _⟩ hl.1 rfl (Nat.le_of_ble_eq_true rfl) rfl dX6_kth_11 (fun H locs Z => ?_)
    refine lv_aload_n C.1 C.2.1 dX6_kth_14 rfl (lv_at hl 0 rfl) ?_
    refine x_get C Z 0 rfl rfl i_X6_X6_kth (k := 4) (by decide) (List.mem_of_getElem? (i := 1) rfl) rfl dX6_kth_15 ?_
    refine lv_aload_n C.1 C.2.1 dX6_kth_18 rfl (lv_at hl 0 rfl) ?_
    refine x_get C Z 0 rfl rfl i_X6_X6_kth (k := 2) (by decide) (List.mem_of_getElem? (i := 2) rfl) rfl dX6_kth_19 ?_
    obtain ⟨r10, hr10, h11⟩ := bd_some h9
    clear h9
    refine x_callV_v_Q (As := [.ref (aT 0)]) (rest := []) (q0 := 0) (X2 := (wF g aF (aH 0) (aP 0) (aT 0) (aC 0) (aB 0) (aQ 0) (aU 0) (aV 0) (aS 0) (aR 0) sF ++ (wH g aH sH ++ (wP g aP sP ++ (wT g aT r8.1 ++ (wC g aC (aK 0) rr r8.2.1 ++ (wS g aK r8.2.2 ++ (wB g aB r10 ++ (wT g aQ sQ ++ (wT g aU sU ++ (wT g aV sV ++ (wS g aS sS ++ wS g aR sR)))))))))))) C Z fr_FHPTCKBQUVSR_6_3 (k_X0_refresh l g n aB aT sB r8.1 r10 hr10) gX6_kth_X0_refresh yk_X0_refresh ⟨Nat.le_of_ble_eq_true rfl, Nat.le_of_ble_eq_true rfl⟩ rfl rfl ⟨Nat.zero_le _, Nat.zero_le _⟩ hl.1 rfl (Nat.le_of_ble_eq_true rfl) rfl dX6_kth_22 (fun H locs Z => ?_)
    refine lv_iload_n C.1 C.2.1 dX6_kth_25 rfl (lv_at hl 2 rfl) ?_
    refine lv_istore_n (lv' := [(3, .int (iI v2)), (0, .ref (aF 0)), (1, .int (iI v1)), (2, .int (iI v2))]) C.1 C.2.1 dX6_kth_26 rfl hl (by decide) rfl (fun ls hl => ?_)
    refine x_iconst C dX6_kth_27 ?_
    refine lv_istore (lv' := [(4, .int (iI 0)), (3, .int (iI v2)), (0, .ref (aF 0)), (1, .int (iI v1)), (2, .int (iI v2))]) C.1 C.2.1 dX6_kth_28 hl (by decide) rfl (fun ls hl => ?_)
    obtain ⟨ex30, hl30, h72⟩ := bd_some h11
    clear h11
    have hK30 : ∀ (e30 : PadS) (H : Heap) (locs : List Loc) (ls : Array Slot), ex30 = .inr e30 → xSt g A s ((wF g aF (aH 0) (aP 0) (aT 0) (aC 0) (aB 0) (aQ 0) (aU 0) (aV 0) (aS 0) (aR 0) sF ++ (wH g aH sH ++ (wP g aP e30 ++ (wT g aT r8.1 ++ (wC g aC (aK 0) rr r8.2.1 ++ (wS g aK r8.2.2 ++ (wB g aB r10 ++ (wT g aQ sQ ++ (wT g aU sU ++ (wT g aV sV ++ (wS g aS sS ++ wS g aR sR))))))))))) ++ wR g rr r8.2.1.classOf) H locs → lv_has ls 8 [] → W p l e rmX6_kth s m args below meth c H locs 0 0 QQ (F0 m 126 ls []) := by
      intro e30 H locs ls he Z hl
      subst he
      have h73 := (Sum.elim_inr ..).symm.trans h72
      clear h72
      refine x_bipush C dX6_kth_126 (by decide) ?_
      have h74 := Option.some.inj h73
      subst h74
      exact hRet _ _ _ _ Z dX6_kth_128
    have hL30 : ∀ (k30 : Nat) (z30 : Int × Int × PadS) (H : Heap) (locs : List Loc) (ls : Array Slot), lp (p_X6_kth_b30 n r8.1 r8.2.1 r8.2.2 r10 v1) k30 z30 = some ex30 → xSt g A s ((wF g aF (aH 0) (aP 0) (aT 0) (aC 0) (aB 0) (aQ 0) (aU 0) (aV 0) (aS 0) (aR 0) sF ++ (wH g aH sH ++ (wP g aP z30.2.2 ++ (wT g aT r8.1 ++ (wC g aC (aK 0) rr r8.2.1 ++ (wS g aK r8.2.2 ++ (wB g aB r10 ++ (wT g aQ sQ ++ (wT g aU sU ++ (wT g aV sV ++ (wS g aS sS ++ wS g aR sR))))))))))) ++ wR g rr r8.2.1.classOf) H locs → lv_has ls 8 [(0, .ref (aF 0)), (1, .int (iI v1)), (3, .int (iI z30.1)), (4, .int (iI z30.2.1))] → W p l e rmX6_kth s m args below meth c H locs 0 0 QQ (F0 m 30 ls []) := by
      intro k30
      induction k30 with
      | zero => intro z30 H locs ls h; exact (lp_0 h).elim
      | succ k30 ih30 =>
        intro z30 H locs ls h Z hl
        obtain ⟨x30, hb30, hx30⟩ := lp_s h
        clear h
        unfold p_X6_kth_b30 at hb30
        refine lv_iload C.1 C.2.1 dX6_kth_30 (lv_at hl 3 rfl) ?_
        refine lv_aload_n C.1 C.2.1 dX6_kth_32 rfl (lv_at hl 0 rfl) ?_
        refine x_get C Z 0 rfl rfl i_X6_X6_kth (k := 2) (by decide) (List.mem_of_getElem? (i := 2) rfl) rfl dX6_kth_33 ?_
        obtain ⟨r42, hr42, h43⟩ := bd_some hb30
        clear hb30
        refine x_callV_i_Q (As := []) (rest := [.int (iI z30.2.1)]) (q0 := 0) (X2 := (wF g aF (aH 0) (aP 0) (aT 0) (aC 0) (aB 0) (aQ 0) (aU 0) (aV 0) (aS 0) (aR 0) sF ++ (wH g aH sH ++ (wP g aP z30.2.2 ++ (wT g aT r8.1 ++ (wC g aC (aK 0) rr r8.2.1 ++ (wS g aK r8.2.2 ++ (wB g aB r10 ++ (wT g aQ sQ ++ (wT g aU sU ++ (wT g aV sV ++ (wS g aS sS ++ wS g aR sR)))))))))))) C Z fr_FHPTCKBQUVSR_3 (k_X5_length l g n aT r8.1 r42 hr42) gX6_kth_X5_length yk_X5_length ⟨Nat.le_of_ble_eq_true rfl, Nat.le_of_ble_eq_true rfl⟩ rfl rfl ⟨Nat.zero_le _, Nat.zero_le _⟩ hl.1 rfl (Nat.le_of_ble_eq_true rfl) rfl dX6_kth_36 (fun H locs Z => ?_)
        have q44 := (ck_some h43).1
        have h45 := (ck_some h43).2
        clear h43
        have q46 := (ck_some h45).1
        have h47 := (ck_some h45).2
        clear h45
        refine x_icmp_ge (tgt := 126) C dX6_kth_39 (by decide) q44 q46 (fun c48 => ?_) (fun c48 => ?_)
        · have h49 := if_n h47 c48
          clear h47
          cases h49
          exact hK30 z30.2.2 _ _ _ (lp_R hx30).symm Z (lv_sub hl [] rfl)
        · have h50 := if_p h47 c48
          clear h47
          refine lv_iload_n C.1 C.2.1 dX6_kth_42 rfl (lv_at hl 2 rfl) ?_
          have q51 := (ck_some h50).1
          have h52 := (ck_some h50).2
          clear h50
          refine x_if_lt (tgt := 126) C dX6_kth_43 (by decide) q51 (fun c53 => ?_) (fun c53 => ?_)
          · have h54 := if_p h52 c53
            clear h52
            cases h54
            exact hK30 z30.2.2 _ _ _ (lp_R hx30).symm Z (lv_sub hl [] rfl)
          · have h55 := if_n h52 c53
            clear h52
            refine lv_aload_n C.1 C.2.1 dX6_kth_46 rfl (lv_at hl 0 rfl) ?_
            refine x_get C Z 0 rfl rfl i_X6_X6_kth (k := 4) (by decide) (List.mem_of_getElem? (i := 1) rfl) rfl dX6_kth_47 ?_
            refine lv_iload C.1 C.2.1 dX6_kth_50 (lv_at hl 3 rfl) ?_
            obtain ⟨r56, hr56, h57⟩ := bd_some h55
            clear h55
            refine x_callV_i_Q (As := [.int (iI z30.2.1)]) (rest := []) (q0 := 0) (X2 := (wF g aF (aH 0) (aP 0) (aT 0) (aC 0) (aB 0) (aQ 0) (aU 0) (aV 0) (aS 0) (aR 0) sF ++ (wH g aH sH ++ (wP g aP z30.2.2 ++ (wT g aT r8.1 ++ (wC g aC (aK 0) rr r8.2.1 ++ (wS g aK r8.2.2 ++ (wB g aB r10 ++ (wT g aQ sQ ++ (wT g aU sU ++ (wT g aV sV ++ (wS g aS sS ++ wS g aR sR)))))))))))) C Z fr_FHPTCKBQUVSR_6 (k_X0_startAt l g n aB r10 z30.2.1 r56 hr56) gX6_kth_X0_startAt yk_X0_startAt ⟨Nat.le_of_ble_eq_true rfl, Nat.le_of_ble_eq_true rfl⟩ rfl rfl ⟨Nat.zero_le _, Nat.zero_le _⟩ hl.1 rfl (Nat.le_of_ble_eq_true rfl) rfl dX6_kth_52 (fun H locs Z => ?_)
            refine lv_istore (lv' := [(5, .int (iI r56)), (0, .ref (aF 0)), (1, .int (iI v1)), (3, .int (iI z30.1)), (4, .int (iI z30.2.1))]) C.1 C.2.1 dX6_kth_55 hl (by decide) rfl (fun ls hl => ?_)
            refine lv_aload_n C.1 C.2.1 dX6_kth_57 rfl (lv_at hl 1 rfl) ?_
            refine x_get C Z 0 rfl rfl i_X6_X6_kth (k := 4) (by decide) (List.mem_of_getElem? (i := 1) rfl) rfl dX6_kth_58 ?_
            refine lv_iload C.1 C.2.1 dX6_kth_61 (lv_at hl 4 rfl) ?_
            obtain ⟨r58, hr58, h59⟩ := bd_some h57
            clear h57
            refine x_callV_i_Q (As := [.int (iI z30.2.1)]) (rest := []) (q0 := 0) (X2 := (wF g aF (aH 0) (aP 0) (aT 0) (aC 0) (aB 0) (aQ 0) (aU 0) (aV 0) (aS 0) (aR 0) sF ++ (wH g aH sH ++ (wP g aP z30.2.2 ++ (wT g aT r8.1 ++ (wC g aC (aK 0) rr r8.2.1 ++ (wS g aK r8.2.2 ++ (wB g aB r10 ++ (wT g aQ sQ ++ (wT g aU sU ++ (wT g aV sV ++ (wS g aS sS ++ wS g aR sR)))))))))))) C Z fr_FHPTCKBQUVSR_6 (k_X0_sharedAt l g n aB r10 z30.2.1 r58 hr58) gX6_kth_X0_sharedAt yk_X0_sharedAt ⟨Nat.le_of_ble_eq_true rfl, Nat.le_of_ble_eq_true rfl⟩ rfl rfl ⟨Nat.zero_le _, Nat.zero_le _⟩ hl.1 rfl (Nat.le_of_ble_eq_true rfl) rfl dX6_kth_63 (fun H locs Z => ?_)
            refine x_iconst C dX6_kth_66 ?_
            refine x_iadd C dX6_kth_67 ?_
            refine lv_istore (lv' := [(6, .int (iI (r58 + 1))), (5, .int (iI r56)), (0, .ref (aF 0)), (1, .int (iI v1)), (3, .int (iI z30.1)), (4, .int (iI z30.2.1))]) C.1 C.2.1 dX6_kth_68 hl (by decide) rfl (fun ls hl => ?_)
            refine lv_aload_n C.1 C.2.1 dX6_kth_70 rfl (lv_at hl 2 rfl) ?_
            refine x_get C Z 0 rfl rfl i_X6_X6_kth (k := 3) (by decide) (List.mem_of_getElem? (i := 3) rfl) rfl dX6_kth_71 ?_
            refine lv_aload_n C.1 C.2.1 dX6_kth_74 rfl (lv_at hl 2 rfl) ?_
            refine x_get C Z 0 rfl rfl i_X6_X6_kth (k := 2) (by decide) (List.mem_of_getElem? (i := 2) rfl) rfl dX6_kth_75 ?_
            refine lv_iload_n C.1 C.2.1 dX6_kth_78 rfl (lv_at hl 3 rfl) ?_
            refine lv_iload C.1 C.2.1 dX6_kth_79 (lv_at hl 1 rfl) ?_
            refine lv_iload C.1 C.2.1 dX6_kth_81 (lv_at hl 0 rfl) ?_
            obtain ⟨r60, hr60, h61⟩ := bd_some h59
            clear h59
            refine x_callV_i_P (As := [.ref (aT 0), .int (iI v1), .int (iI r56), .int (iI (r58 + 1))]) (rest := []) (q0 := 0) (X2 := (wF g aF (aH 0) (aP 0) (aT 0) (aC 0) (aB 0) (aQ 0) (aU 0) (aV 0) (aS 0) (aR 0) sF ++ (wH g aH sH ++ (wP g aP z30.2.2 ++ (wT g aT r8.1 ++ (wC g aC (aK 0) rr r8.2.1 ++ (wS g aK r8.2.2 ++ (wB g aB r10 ++ (wT g aQ sQ ++ (wT g aU sU ++ (wT g aV sV ++ (wS g aS sS ++ wS g aR sR)))))))))))) C Z fr_FHPTCKBQUVSR_4_5_3 (k_X1_lengthWith l g n aC aK aT rr r8.2.1 r8.2.2 r8.1 v1 r56 (r58 + 1) r60 hr60) gX6_kth_X1_lengthWith yk_X1_lengthWith ⟨Nat.le_of_ble_eq_true rfl, Nat.le_of_ble_eq_true rfl⟩ rfl rfl ⟨Nat.zero_le _, Nat.zero_le _⟩ hl.1 rfl (Nat.le_of_ble_eq_true rfl) rfl dX6_kth_83 (fun H locs Z => ?_)
            refine lv_istore (lv' := [(7, .int (iI r60)), (6, .int (iI (r58 + 1))), (5, .int (iI r56)), (0, .ref (aF 0)), (1, .int (iI v1)), (3, .int (iI z30.1)), (4, .int (iI z30.2.1))]) C.1 C.2.1 dX6_kth_86 hl (by decide) rfl (fun ls hl => ?_)
            refine lv_iload_n C.1 C.2.1 dX6_kth_88 rfl (lv_at hl 5 rfl) ?_
            refine lv_iload C.1 C.2.1 dX6_kth_89 (lv_at hl 0 rfl) ?_
            refine lv_iload C.1 C.2.1 dX6_kth_91 (lv_at hl 1 rfl) ?_
            refine x_isub C dX6_kth_93 ?_
            refine x_iconst C dX6_kth_94 ?_
            refine x_iadd C dX6_kth_95 ?_
            have q62 := (ck_some h61).1
            have h63 := (ck_some h61).2
            clear h61
            refine x_icmp_ge (tgt := 110) C dX6_kth_96 (by decide) q51 q62 (fun c64 => ?_) (fun c64 => ?_)
            · have h65 := if_n h63 c64
              clear h63
              refine lv_iload_n C.1 C.2.1 dX6_kth_110 rfl (lv_at hl 5 rfl) ?_
              refine lv_iload C.1 C.2.1 dX6_kth_111 (lv_at hl 0 rfl) ?_
              refine lv_iload C.1 C.2.1 dX6_kth_113 (lv_at hl 1 rfl) ?_
              refine x_isub C dX6_kth_115 ?_
              refine x_iconst C dX6_kth_116 ?_
              refine x_iadd C dX6_kth_117 ?_
              refine x_isub C dX6_kth_118 ?_
              refine lv_istore_n (lv' := [(3, .int (iI (z30.1 - ((r60 - (r58 + 1)) + 1)))), (7, .int (iI r60)), (6, .int (iI (r58 + 1))), (5, .int (iI r56)), (0, .ref (aF 0)), (1, .int (iI v1)), (4, .int (iI z30.2.1))]) C.1 C.2.1 dX6_kth_119 rfl hl (by decide) rfl (fun ls hl => ?_)
              refine x_iinc (lv' := [(4, .int (iI (z30.2.1 + 1))), (3, .int (iI (z30.1 - ((r60 - (r58 + 1)) + 1)))), (7, .int (iI r60)), (6, .int (iI (r58 + 1))), (5, .int (iI r56)), (0, .ref (aF 0)), (1, .int (iI v1))]) C dX6_kth_120 hl (k := 6) rfl (by decide) rfl (fun ls hl => ?_)
              refine lv_goto (tgt := 30) C.1 C.2.1 dX6_kth_123 (by decide) ?_
              cases h65
              exact ih30 (z30.1 - ((r60 - (r58 + 1)) + 1), z30.2.1 + 1, z30.2.2) _ _ _ (lp_L2 hx30) Z (lv_sub hl [5, 6, 1, 0] rfl)
            · have h66 := if_p h63 c64
              clear h63
              refine lv_aload_n C.1 C.2.1 dX6_kth_99 rfl (lv_at hl 3 rfl) ?_
              refine lv_iload C.1 C.2.1 dX6_kth_100 (lv_at hl 2 rfl) ?_
              refine lv_iload C.1 C.2.1 dX6_kth_102 (lv_at hl 1 rfl) ?_
              refine lv_iload_n C.1 C.2.1 dX6_kth_104 rfl (lv_at hl 5 rfl) ?_
              refine x_iadd C dX6_kth_105 ?_
              obtain ⟨r67, hr67, h68⟩ := bd_some h66
              clear h66
              refine x_callV_i_id (As := [.int (iI r56), .int (iI ((r58 + 1) + z30.1))]) (rest := []) (q0 := 0) C Z (k_X6_write l g n aF aH aP aT aC aK aB aQ aU aV aS aR rr sF sH z30.2.2 r8.1 r8.2.1 r8.2.2 r10 sQ sU sV sS sR r56 ((r58 + 1) + z30.1) r67 hr67) gX6_kth_X6_write yk_X6_write ⟨Nat.le_of_ble_eq_true rfl, Nat.le_of_ble_eq_true rfl⟩ rfl rfl ⟨Nat.zero_le _, Nat.zero_le _⟩ hl.1 rfl (Nat.le_of_ble_eq_true rfl) rfl dX6_kth_106 (fun H locs Z => ?_)
              cases h68
              have h69 := lp_R hx30
              subst h69
              have h70 := (Sum.elim_inl ..).symm.trans h72
              have h71 := Option.some.inj h70
              subst h71
              exact hRet _ _ _ _ Z dX6_kth_109
    exact hL30 n (v2, 0, sP) _ _ _ hl30 Z (lv_sub hl [2, 3, 1, 0] rfl)
  · have h7 := if_p h4 c5
    clear h4
    refine x_bipush C dX6_kth_7 (by decide) ?_
    have h75 := Option.some.inj h7
    subst h75
    exact hRet _ _ _ _ Z dX6_kth_9
abbrev rmX5_sharedFromn : Room := { frames := 2, cells := 0, slots := 0, locals := 42 }
theorem yk_X5_sharedFromn : xY yX5_sharedFrom RX5 cX5_sharedFrom 6 (some .int) wsX5_sharedFrom rmX5_sharedFromn 3 := ⟨⟨_, rfl⟩, by decide +kernel, rfl, rfl⟩
set_option maxHeartbeats 4000000 in
set_option maxRecDepth 100000 in
theorem k_X5_sharedFromn (l : Launch) (g : xG) (n : Nat) (aT : Nat → Nat) (aU : Nat → Nat) (sT : TxtS) (sU : TxtS) (v1 : Int) (v3 : Int) (r : Int) (hf : p_X5_sharedFromn n sT sU v1 v3 = some r) : xMi l yX5_sharedFrom wsX5_sharedFrom rmX5_sharedFromn g [.ref (aT 0), .int (iI v1), .ref (aU 0), .int (iI v3)] (wT g aT sT ++ wT g aU sU) (wT g aT sT ++ wT g aU sU) r := by
  refine x_ofW_i (own := RX5) (by decide) rfl rfl (Nat.le_of_ble_eq_true rfl) ?_
  intro p e s m args below meth c ls A QQ C hRet Z hl
  have hl : lv_has ls 6 [(0, .ref (aT 0)), (1, .int (iI v1)), (2, .ref (aU 0)), (3, .int (iI v3))] := hl
  unfold p_X5_sharedFromn at hf
  refine lv_aload_n C.1 C.2.1 dX5_sharedFrom_0 rfl (lv_at hl 0 rfl) ?_
  refine lv_iload_n C.1 C.2.1 dX5_sharedFrom_1 rfl (lv_at hl 1 rfl) ?_
  obtain ⟨r1, hr1, h2⟩ := bd_some hf
  clear hf
  refine x_callV_i_J (As := [.int (iI v1)]) (rest := []) (q0 := 0) (ws2 := wT g aT sT ++ wT g aU sU) C Z fr_TU_0 (k_X5_lettersFrom l g n aT sT v1 r1 hr1) gX5_sharedFrom_X5_lettersFrom yk_X5_lettersFrom ⟨Nat.le_of_ble_eq_true rfl, Nat.le_of_ble_eq_true rfl⟩ rfl rfl ⟨Nat.zero_le _, Nat.zero_le _⟩ hl.1 rfl (Nat.le_of_ble_eq_true rfl) rfl dX5_sharedFrom_2 (fun H locs Z => ?_)
  refine lv_aload_n C.1 C.2.1 dX5_sharedFrom_5 rfl (lv_at hl 2 rfl) ?_
  refine lv_iload_n C.1 C.2.1 dX5_sharedFrom_6 rfl (lv_at hl 3 rfl) ?_
  obtain ⟨r3, hr3, h4⟩ := bd_some h2
  clear h2
  refine x_callV_i_J (As := [.int (iI v3)]) (rest := [.int (iI r1)]) (q0 := 0) (ws2 := wT g aT sT ++ wT g aU sU) C Z fr_TU_1 (k_X5_lettersFrom l g n aU sU v3 r3 hr3) gX5_sharedFrom_X5_lettersFrom yk_X5_lettersFrom ⟨Nat.le_of_ble_eq_true rfl, Nat.le_of_ble_eq_true rfl⟩ rfl rfl ⟨Nat.zero_le _, Nat.zero_le _⟩ hl.1 rfl (Nat.le_of_ble_eq_true rfl) rfl dX5_sharedFrom_7 (fun H locs Z => ?_)
  have q5 := (ck_some h4).1
  have h6 := (ck_some h4).2
  clear h4
  have q7 := (ck_some h6).1
  have h8 := (ck_some h6).2
  clear h6
  refine x_mmin (rest := []) C hl.1 (List.mem_of_getElem? (i := 1) rfl) (List.mem_of_getElem? (i := 2) rfl) (List.mem_of_getElem? (i := 3) rfl) (List.mem_of_getElem? (i := 4) rfl) (by decide) (by decide) (Nat.le_of_ble_eq_true rfl) ⟨Nat.zero_le _, Nat.zero_le _⟩ q5 q7 dX5_sharedFrom_10 ?_
  refine lv_istore (lv' := [(4, .int (iI (min r1 r3))), (0, .ref (aT 0)), (1, .int (iI v1)), (2, .ref (aU 0)), (3, .int (iI v3))]) C.1 C.2.1 dX5_sharedFrom_13 hl (by decide) rfl (fun ls hl => ?_)
  refine x_iconst C dX5_sharedFrom_15 ?_
  refine lv_istore (lv' := [(5, .int (iI 0)), (4, .int (iI (min r1 r3))), (0, .ref (aT 0)), (1, .int (iI v1)), (2, .ref (aU 0)), (3, .int (iI v3))]) C.1 C.2.1 dX5_sharedFrom_16 hl (by decide) rfl (fun ls hl => ?_)
  obtain ⟨ex18, hl18, h51⟩ := bd_some h8
  clear h8
  have hK18 : ∀ (e18 : Unit) (H : Heap) (locs : List Loc) (ls : Array Slot), ex18 = .inr e18 → xSt g A s (wT g aT sT ++ wT g aU sU) H locs → lv_has ls 6 [(4, .int (iI (min r1 r3)))] → W p l e rmX5_sharedFromn s m args below meth c H locs 0 0 QQ (F0 m 53 ls []) := by
    intro e18 H locs ls he Z hl
    subst he
    have h52 := (Sum.elim_inr ..).symm.trans h51
    clear h51
    refine lv_iload C.1 C.2.1 dX5_sharedFrom_53 (lv_at hl 0 rfl) ?_
    have h53 := Option.some.inj h52
    subst h53
    exact hRet _ _ _ _ Z dX5_sharedFrom_55
  have hL18 : ∀ (k18 : Nat) (z18 : Int) (H : Heap) (locs : List Loc) (ls : Array Slot), lp (p_X5_sharedFromn_b18 n sT sU v1 v3 (min r1 r3)) k18 z18 = some ex18 → xSt g A s (wT g aT sT ++ wT g aU sU) H locs → lv_has ls 6 [(0, .ref (aT 0)), (1, .int (iI v1)), (2, .ref (aU 0)), (3, .int (iI v3)), (4, .int (iI (min r1 r3))), (5, .int (iI z18))] → W p l e rmX5_sharedFromn s m args below meth c H locs 0 0 QQ (F0 m 18 ls []) := by
    intro k18
    induction k18 with
    | zero => intro z18 H locs ls h; exact (lp_0 h).elim
    | succ k18 ih18 =>
      intro z18 H locs ls h Z hl
      obtain ⟨x18, hb18, hx18⟩ := lp_s h
      clear h
      unfold p_X5_sharedFromn_b18 at hb18
      refine lv_iload C.1 C.2.1 dX5_sharedFrom_18 (lv_at hl 5 rfl) ?_
      refine lv_iload C.1 C.2.1 dX5_sharedFrom_20 (lv_at hl 4 rfl) ?_
      have q30 := (ck_some hb18).1
      have h31 := (ck_some hb18).2
      clear hb18
      have q32 := (ck_some h31).1
      have h33 := (ck_some h31).2
      clear h31
      refine x_icmp_ge (tgt := 53) C dX5_sharedFrom_22 (by decide) q30 q32 (fun c34 => ?_) (fun c34 => ?_)
      · have h35 := if_n h33 c34
        clear h33
        cases h35
        exact hK18 () _ _ _ (lp_R hx18).symm Z (lv_sub hl [4] rfl)
      · have h36 := if_p h33 c34
        clear h33
        refine lv_aload_n C.1 C.2.1 dX5_sharedFrom_25 rfl (lv_at hl 0 rfl) ?_
        refine lv_iload_n C.1 C.2.1 dX5_sharedFrom_26 rfl (lv_at hl 1 rfl) ?_
        refine lv_iload C.1 C.2.1 dX5_sharedFrom_27 (lv_at hl 5 rfl) ?_
        refine x_iadd C dX5_sharedFrom_29 ?_
        obtain ⟨r37, hr37, h38⟩ := bd_some h36
        clear h36
        refine x_callV_i_J (As := [.int (iI (v1 + z18))]) (rest := []) (q0 := 0) (ws2 := wT g aT sT ++ wT g aU sU) C Z fr_TU_0 (k_X5_letterAt l g n aT sT (v1 + z18) r37 hr37) gX5_sharedFrom_X5_letterAt yk_X5_letterAt ⟨Nat.le_of_ble_eq_true rfl, Nat.le_of_ble_eq_true rfl⟩ rfl rfl ⟨Nat.zero_le _, Nat.zero_le _⟩ hl.1 rfl (Nat.le_of_ble_eq_true rfl) rfl dX5_sharedFrom_30 (fun H locs Z => ?_)
        refine lv_aload_n C.1 C.2.1 dX5_sharedFrom_33 rfl (lv_at hl 2 rfl) ?_
        refine lv_iload_n C.1 C.2.1 dX5_sharedFrom_34 rfl (lv_at hl 3 rfl) ?_
        refine lv_iload C.1 C.2.1 dX5_sharedFrom_35 (lv_at hl 5 rfl) ?_
        refine x_iadd C dX5_sharedFrom_37 ?_
        obtain ⟨r39, hr39, h40⟩ := bd_some h38
        clear h38
        refine x_callV_i_J (As := [.int (iI (v3 + z18))]) (rest := [.int (iI r37)]) (q0 := 0) (ws2 := wT g aT sT ++ wT g aU sU) C Z fr_TU_1 (k_X5_letterAt l g n aU sU (v3 + z18) r39 hr39) gX5_sharedFrom_X5_letterAt yk_X5_letterAt ⟨Nat.le_of_ble_eq_true rfl, Nat.le_of_ble_eq_true rfl⟩ rfl rfl ⟨Nat.zero_le _, Nat.zero_le _⟩ hl.1 rfl (Nat.le_of_ble_eq_true rfl) rfl dX5_sharedFrom_38 (fun H locs Z => ?_)
        have q41 := (ck_some h40).1
        have h42 := (ck_some h40).2
        clear h40
        have q43 := (ck_some h42).1
        have h44 := (ck_some h42).2
        clear h42
        refine x_icmp_eq (tgt := 47) C dX5_sharedFrom_41 (by decide) q41 q43 (fun c45 => ?_) (fun c45 => ?_)
        · have h46 := if_p h44 c45
          clear h44
          refine x_iinc (lv' := [(5, .int (iI (z18 + 1))), (0, .ref (aT 0)), (1, .int (iI v1)), (2, .ref (aU 0)), (3, .int (iI v3)), (4, .int (iI (min r1 r3)))]) C dX5_sharedFrom_47 hl (k := 5) rfl (by decide) rfl (fun ls hl => ?_)
          refine lv_goto (tgt := 18) C.1 C.2.1 dX5_sharedFrom_50 (by decide) ?_
          cases h46
          exact ih18 (z18 + 1) _ _ _ (lp_L2 hx18) Z (lv_sub hl [1, 2, 3, 4, 5, 0] rfl)
        · have h47 := if_n h44 c45
          clear h44
          refine lv_iload C.1 C.2.1 dX5_sharedFrom_44 (lv_at hl 5 rfl) ?_
          cases h47
          have h48 := lp_R hx18
          subst h48
          have h49 := (Sum.elim_inl ..).symm.trans h51
          have h50 := Option.some.inj h49
          subst h50
          exact hRet _ _ _ _ Z dX5_sharedFrom_46
  exact hL18 n 0 _ _ _ hl18 Z (lv_sub hl [2, 3, 4, 5, 1, 0] rfl)
abbrev rmX0_lengthBefore : Room := { frames := 3, cells := 0, slots := 0, locals := 67 }
theorem yk_X0_lengthBefore : xY yX0_lengthBefore RX0 cX0_lengthBefore 6 (some .int) wsX0_lengthBefore rmX0_lengthBefore 3 := ⟨⟨_, rfl⟩, by decide +kernel, rfl, rfl⟩
theorem i_X5_X0_lengthBefore : ∀ w ∈ u_ws RX5 TX5 8, w ∈ wsX0_lengthBefore := fun _ h => List.mem_cons_of_mem _ (List.mem_append_right _ h)
set_option maxHeartbeats 4000000 in
set_option maxRecDepth 100000 in
theorem k_X0_lengthBefore (l : Launch) (g : xG) (n : Nat) (aB : Nat → Nat) (aT : Nat → Nat) (aU : Nat → Nat) (sB : BegS) (sT : TxtS) (sU : TxtS) (v2 : Int) (r : Int) (hf : p_X0_lengthBefore n sT sU v2 = some r) : xMi l yX0_lengthBefore wsX0_lengthBefore rmX0_lengthBefore g [.ref (aB 0), .ref (aT 0), .int (iI v2), .ref (aU 0)] (wB g aB sB ++ (wT g aT sT ++ wT g aU sU)) (wB g aB sB ++ (wT g aT sT ++ wT g aU sU)) r := by
  refine x_ofW_i (own := RX0) (by decide) rfl rfl (Nat.le_of_ble_eq_true rfl) ?_
  intro p e s m args below meth c ls A QQ C hRet Z hl
  have hl : lv_has ls 6 [(0, .ref (aB 0)), (1, .ref (aT 0)), (2, .int (iI v2)), (3, .ref (aU 0))] := hl
  unfold p_X0_lengthBefore at hf
  have hJ55 : ∀ (v2_55 : Int) (v4_55 : Int) (t0_55 : Int) (H : Heap) (locs : List Loc) (ls : Array Slot), p_X0_lengthBefore_j55 n sT v2_55 v4_55 t0_55 = some r → xSt g A s (wB g aB sB ++ (wT g aT sT ++ wT g aU sU)) H locs → lv_has ls 6 [(1, .ref (aT 0)), (2, .int (iI v2_55)), (4, .int (iI v4_55))] → W p l e rmX0_lengthBefore s m args below meth c H locs 0 0 QQ (F0 m 55 ls [.int (iI t0_55)]) := by
    intro v2_55 v4_55 t0_55 H locs ls hj55 Z hl
    unfold p_X0_lengthBefore_j55 at hj55
    refine lv_istore (lv' := [(5, .int (iI t0_55)), (1, .ref (aT 0)), (2, .int (iI v2_55)), (4, .int (iI v4_55))]) C.1 C.2.1 dX0_lengthBefore_55 hl (by decide) rfl (fun ls hl => ?_)
    refine lv_iload C.1 C.2.1 dX0_lengthBefore_57 (lv_at hl 0 rfl) ?_
    have q1 := (ck_some hj55).1
    have h2 := (ck_some hj55).2
    clear hj55
    refine x_if_eq (tgt := 67) C dX0_lengthBefore_59 (by decide) q1 (fun c3 => ?_) (fun c3 => ?_)
    · have h4 := if_p h2 c3
      clear h2
      refine lv_aload_n C.1 C.2.1 dX0_lengthBefore_67 rfl (lv_at hl 1 rfl) ?_
      refine lv_iload_n C.1 C.2.1 dX0_lengthBefore_68 rfl (lv_at hl 2 rfl) ?_
      obtain ⟨r6, hr6, h7⟩ := bd_some h4
      clear h4
      refine x_callV_i_J (As := [.int (iI v2_55)]) (rest := []) (q0 := 0) (ws2 := wB g aB sB ++ (wT g aT sT ++ wT g aU sU)) C Z fr_BTU_1 (k_X5_lettersFrom l g n aT sT v2_55 r6 hr6) gX0_lengthBefore_X5_lettersFrom yk_X5_lettersFrom ⟨Nat.le_of_ble_eq_true rfl, Nat.le_of_ble_eq_true rfl⟩ rfl rfl ⟨Nat.zero_le _, Nat.zero_le _⟩ hl.1 rfl (Nat.le_of_ble_eq_true rfl) rfl dX0_lengthBefore_69 (fun H locs Z => ?_)
      have h8 := Option.some.inj h7
      subst h8
      exact hRet _ _ _ _ Z dX0_lengthBefore_72
    · have h5 := if_n h2 c3
      clear h2
      refine lv_iload C.1 C.2.1 dX0_lengthBefore_62 (lv_at hl 3 rfl) ?_
      refine lv_goto (tgt := 72) C.1 C.2.1 dX0_lengthBefore_64 (by decide) ?_
      have h9 := Option.some.inj h5
      subst h9
      exact hRet _ _ _ _ Z dX0_lengthBefore_72
  have hJ54 : ∀ (v2_54 : Int) (v4_54 : Int) (H : Heap) (locs : List Loc) (ls : Array Slot), p_X0_lengthBefore_j54 n sT v2_54 v4_54 = some r → xSt g A s (wB g aB sB ++ (wT g aT sT ++ wT g aU sU)) H locs → lv_has ls 6 [(1, .ref (aT 0)), (2, .int (iI v2_54)), (4, .int (iI v4_54))] → W p l e rmX0_lengthBefore s m args below meth c H locs 0 0 QQ (F0 m 54 ls []) := by
    intro v2_54 v4_54 H locs ls hj54 Z hl
    unfold p_X0_lengthBefore_j54 at hj54
    refine x_iconst C dX0_lengthBefore_54 ?_
    exact hJ55 v2_54 v4_54 0 _ _ _ hj54 Z (lv_sub hl [0, 1, 2] rfl)
  refine lv_aload_n C.1 C.2.1 dX0_lengthBefore_0 rfl (lv_at hl 1 rfl) ?_
  refine lv_iload_n C.1 C.2.1 dX0_lengthBefore_1 rfl (lv_at hl 2 rfl) ?_
  refine lv_aload_n C.1 C.2.1 dX0_lengthBefore_2 rfl (lv_at hl 3 rfl) ?_
  refine x_iconst C dX0_lengthBefore_3 ?_
  obtain ⟨r10, hr10, h11⟩ := bd_some hf
  clear hf
  refine x_callV_i_J (As := [.int (iI v2), .ref (aU 0), .int (iI 0)]) (rest := []) (q0 := 0) (ws2 := wB g aB sB ++ (wT g aT sT ++ wT g aU sU)) C Z fr_BTU_1_2 (k_X5_sharedFromn l g n aT aU sT sU v2 0 r10 hr10) gX0_lengthBefore_X5_sharedFrom yk_X5_sharedFromn ⟨Nat.le_of_ble_eq_true rfl, Nat.le_of_ble_eq_true rfl⟩ rfl rfl ⟨Nat.zero_le _, Nat.zero_le _⟩ hl.1 rfl (Nat.le_of_ble_eq_true rfl) rfl dX0_lengthBefore_4 (fun H locs Z => ?_)
  refine lv_istore (lv' := [(4, .int (iI r10)), (0, .ref (aB 0)), (1, .ref (aT 0)), (2, .int (iI v2)), (3, .ref (aU 0))]) C.1 C.2.1 dX0_lengthBefore_7 hl (by decide) rfl (fun ls hl => ?_)
  refine lv_iload C.1 C.2.1 dX0_lengthBefore_9 (lv_at hl 0 rfl) ?_
  refine lv_aload_n C.1 C.2.1 dX0_lengthBefore_11 rfl (lv_at hl 4 rfl) ?_
  obtain ⟨r12, hr12, h13⟩ := bd_some h11
  clear h11
  refine x_callV_i_J (As := []) (rest := [.int (iI r10)]) (q0 := 0) (ws2 := wB g aB sB ++ (wT g aT sT ++ wT g aU sU)) C Z fr_BTU_2 (k_X5_length l g n aU sU r12 hr12) gX0_lengthBefore_X5_length yk_X5_length ⟨Nat.le_of_ble_eq_true rfl, Nat.le_of_ble_eq_true rfl⟩ rfl rfl ⟨Nat.zero_le _, Nat.zero_le _⟩ hl.1 rfl (Nat.le_of_ble_eq_true rfl) rfl dX0_lengthBefore_12 (fun H locs Z => ?_)
  have q14 := (ck_some h13).1
  have h15 := (ck_some h13).2
  clear h13
  have q16 := (ck_some h15).1
  have h17 := (ck_some h15).2
  clear h15
  refine x_icmp_ne (tgt := 23) C dX0_lengthBefore_15 (by decide) q14 q16 (fun c18 => ?_) (fun c18 => ?_)
  · have h19 := if_n h17 c18
    clear h17
    refine lv_iload C.1 C.2.1 dX0_lengthBefore_23 (lv_at hl 0 rfl) ?_
    refine lv_aload_n C.1 C.2.1 dX0_lengthBefore_25 rfl (lv_at hl 2 rfl) ?_
    refine lv_iload_n C.1 C.2.1 dX0_lengthBefore_26 rfl (lv_at hl 3 rfl) ?_
    obtain ⟨r21, hr21, h22⟩ := bd_some h19
    clear h19
    refine x_callV_i_J (As := [.int (iI v2)]) (rest := [.int (iI r10)]) (q0 := 0) (ws2 := wB g aB sB ++ (wT g aT sT ++ wT g aU sU)) C Z fr_BTU_1 (k_X5_lettersFrom l g n aT sT v2 r21 hr21) gX0_lengthBefore_X5_lettersFrom yk_X5_lettersFrom ⟨Nat.le_of_ble_eq_true rfl, Nat.le_of_ble_eq_true rfl⟩ rfl rfl ⟨Nat.zero_le _, Nat.zero_le _⟩ hl.1 rfl (Nat.le_of_ble_eq_true rfl) rfl dX0_lengthBefore_27 (fun H locs Z => ?_)
    have q23 := (ck_some h22).1
    have h24 := (ck_some h22).2
    clear h22
    refine x_icmp_ge (tgt := 54) C dX0_lengthBefore_30 (by decide) q14 q23 (fun c25 => ?_) (fun c25 => ?_)
    · have h26 := if_n h24 c25
      clear h24
      exact hJ54 v2 r10 _ _ _ h26 Z (lv_sub hl [2, 3, 0] rfl)
    · have h27 := if_p h24 c25
      clear h24
      refine lv_aload_n C.1 C.2.1 dX0_lengthBefore_33 rfl (lv_at hl 2 rfl) ?_
      refine lv_iload_n C.1 C.2.1 dX0_lengthBefore_34 rfl (lv_at hl 3 rfl) ?_
      refine lv_iload C.1 C.2.1 dX0_lengthBefore_35 (lv_at hl 0 rfl) ?_
      refine x_iadd C dX0_lengthBefore_37 ?_
      obtain ⟨r28, hr28, h29⟩ := bd_some h27
      clear h27
      refine x_callV_i_J (As := [.int (iI (v2 + r10))]) (rest := []) (q0 := 0) (ws2 := wB g aB sB ++ (wT g aT sT ++ wT g aU sU)) C Z fr_BTU_1 (k_X5_letterAt l g n aT sT (v2 + r10) r28 hr28) gX0_lengthBefore_X5_letterAt yk_X5_letterAt ⟨Nat.le_of_ble_eq_true rfl, Nat.le_of_ble_eq_true rfl⟩ rfl rfl ⟨Nat.zero_le _, Nat.zero_le _⟩ hl.1 rfl (Nat.le_of_ble_eq_true rfl) rfl dX0_lengthBefore_38 (fun H locs Z => ?_)
      refine lv_aload_n C.1 C.2.1 dX0_lengthBefore_41 rfl (lv_at hl 4 rfl) ?_
      refine lv_iload C.1 C.2.1 dX0_lengthBefore_42 (lv_at hl 0 rfl) ?_
      obtain ⟨r30, hr30, h31⟩ := bd_some h29
      clear h29
      refine x_callV_i_J (As := [.int (iI r10)]) (rest := [.int (iI r28)]) (q0 := 0) (ws2 := wB g aB sB ++ (wT g aT sT ++ wT g aU sU)) C Z fr_BTU_2 (k_X5_letterAt l g n aU sU r10 r30 hr30) gX0_lengthBefore_X5_letterAt yk_X5_letterAt ⟨Nat.le_of_ble_eq_true rfl, Nat.le_of_ble_eq_true rfl⟩ rfl rfl ⟨Nat.zero_le _, Nat.zero_le _⟩ hl.1 rfl (Nat.le_of_ble_eq_true rfl) rfl dX0_lengthBefore_44 (fun H locs Z => ?_)
      have q32 := (ck_some h31).1
      have h33 := (ck_some h31).2
      clear h31
      have q34 := (ck_some h33).1
      have h35 := (ck_some h33).2
      clear h33
      refine x_icmp_le (tgt := 54) C dX0_lengthBefore_47 (by decide) q32 q34 (fun c36 => ?_) (fun c36 => ?_)
      · have h37 := if_n h35 c36
        clear h35
        exact hJ54 v2 r10 _ _ _ h37 Z (lv_sub hl [2, 3, 0] rfl)
      · have h38 := if_p h35 c36
        clear h35
        refine x_iconst C dX0_lengthBefore_50 ?_
        refine lv_goto (tgt := 55) C.1 C.2.1 dX0_lengthBefore_51 (by decide) ?_
        exact hJ55 v2 r10 1 _ _ _ h38 Z (lv_sub hl [2, 3, 0] rfl)
  · have h20 := if_p h17 c18
    clear h17
    refine lv_iload C.1 C.2.1 dX0_lengthBefore_18 (lv_at hl 0 rfl) ?_
    refine x_iconst C dX0_lengthBefore_20 ?_
    refine x_isub C dX0_lengthBefore_21 ?_
    have h39 := Option.some.inj h20
    subst h39
    exact hRet _ _ _ _ Z dX0_lengthBefore_22
abbrev rmX0_factorsBefore : Room := { frames := 4, cells := 0, slots := 0, locals := 92 }
theorem yk_X0_factorsBefore : xY yX0_factorsBefore RX0 cX0_factorsBefore 5 (some .int) wsX0_factorsBefore rmX0_factorsBefore 2 := ⟨⟨_, rfl⟩, by decide +kernel, rfl, rfl⟩
theorem i_X0_X0_factorsBefore : ∀ w ∈ u_ws RX0 TX0 4, w ∈ wsX0_factorsBefore := fun _ h => List.mem_cons_of_mem _ (List.mem_append_left _ (List.mem_append_right _ h))
theorem i_X5_X0_factorsBefore : ∀ w ∈ u_ws RX5 TX5 8, w ∈ wsX0_factorsBefore := fun _ h => List.mem_cons_of_mem _ (List.mem_append_right _ h)
set_option maxHeartbeats 4000000 in
set_option maxRecDepth 100000 in
theorem k_X0_factorsBefore (l : Launch) (g : xG) (n : Nat) (aB : Nat → Nat) (aT : Nat → Nat) (aU : Nat → Nat) (sB : BegS) (sT : TxtS) (sU : TxtS) (r : Int) (hf : p_X0_factorsBefore n sB sT sU = some r) : xMi l yX0_factorsBefore wsX0_factorsBefore rmX0_factorsBefore g [.ref (aB 0), .ref (aT 0), .ref (aU 0)] (wB g aB sB ++ (wT g aT sT ++ wT g aU sU)) (wB g aB sB ++ (wT g aT sT ++ wT g aU sU)) r := by
  refine x_ofW_i (own := RX0) (by decide) rfl rfl (Nat.le_of_ble_eq_true rfl) ?_
  intro p e s m args below meth c ls A QQ C hRet Z hl
  have hl : lv_has ls 5 [(0, .ref (aB 0)), (1, .ref (aT 0)), (2, .ref (aU 0))] := hl
  unfold p_X0_factorsBefore at hf
  refine x_iconst C dX0_factorsBefore_0 ?_
  refine lv_istore_n (lv' := [(3, .int (iI 0)), (0, .ref (aB 0)), (1, .ref (aT 0)), (2, .ref (aU 0))]) C.1 C.2.1 dX0_factorsBefore_1 rfl hl (by decide) rfl (fun ls hl => ?_)
  refine x_iconst C dX0_factorsBefore_2 ?_
  refine lv_istore (lv' := [(4, .int (iI 0)), (3, .int (iI 0)), (0, .ref (aB 0)), (1, .ref (aT 0)), (2, .ref (aU 0))]) C.1 C.2.1 dX0_factorsBefore_3 hl (by decide) rfl (fun ls hl => ?_)
  obtain ⟨ex5, hl5, h33⟩ := bd_some hf
  clear hf
  have hK5 : ∀ (H : Heap) (locs : List Loc) (ls : Array Slot), xSt g A s (wB g aB sB ++ (wT g aT sT ++ wT g aU sU)) H locs → lv_has ls 5 [(3, .int (iI ex5))] → W p l e rmX0_factorsBefore s m args below meth c H locs 0 0 QQ (F0 m 48 ls []) := by
    intro H locs ls Z hl
    have h34 := h33
    clear h33
    refine lv_iload_n C.1 C.2.1 dX0_factorsBefore_48 rfl (lv_at hl 0 rfl) ?_
    have h35 := Option.some.inj h34
    subst h35
    exact hRet _ _ _ _ Z dX0_factorsBefore_49
  have hL5 : ∀ (k5 : Nat) (z5 : Int × Int) (H : Heap) (locs : List Loc) (ls : Array Slot), lp (p_X0_factorsBefore_b5 n sB sT sU) k5 z5 = some ex5 → xSt g A s (wB g aB sB ++ (wT g aT sT ++ wT g aU sU)) H locs → lv_has ls 5 [(0, .ref (aB 0)), (1, .ref (aT 0)), (2, .ref (aU 0)), (3, .int (iI z5.1)), (4, .int (iI z5.2))] → W p l e rmX0_factorsBefore s m args below meth c H locs 0 0 QQ (F0 m 5 ls []) := by
    intro k5
    induction k5 with
    | zero => intro z5 H locs ls h; exact (lp_0 h).elim
    | succ k5 ih5 =>
      intro z5 H locs ls h Z hl
      obtain ⟨x5, hb5, hx5⟩ := lp_s h
      clear h
      unfold p_X0_factorsBefore_b5 at hb5
      refine lv_iload C.1 C.2.1 dX0_factorsBefore_5 (lv_at hl 4 rfl) ?_
      refine lv_aload_n C.1 C.2.1 dX0_factorsBefore_7 rfl (lv_at hl 0 rfl) ?_
      refine x_get C Z 0 rfl rfl i_X0_X0_factorsBefore (k := 2) (by decide) (List.mem_of_getElem? (i := 1) rfl) rfl dX0_factorsBefore_8 ?_
      have q17 := (ck_some hb5).1
      have h18 := (ck_some hb5).2
      clear hb5
      have q19 := (ck_some h18).1
      have h20 := (ck_some h18).2
      clear h18
      refine x_icmp_ge (tgt := 48) C dX0_factorsBefore_11 (by decide) q17 q19 (fun c21 => ?_) (fun c21 => ?_)
      · have h22 := if_n h20 c21
        clear h20
        cases h22
        have h24 := lp_R hx5
        subst h24
        exact hK5 _ _ _ Z (lv_sub hl [3] rfl)
      · have h23 := if_p h20 c21
        clear h20
        refine lv_iload_n C.1 C.2.1 dX0_factorsBefore_14 rfl (lv_at hl 3 rfl) ?_
        refine x_iconst C dX0_factorsBefore_15 ?_
        refine lv_aload_n C.1 C.2.1 dX0_factorsBefore_16 rfl (lv_at hl 0 rfl) ?_
        refine lv_aload_n C.1 C.2.1 dX0_factorsBefore_17 rfl (lv_at hl 1 rfl) ?_
        refine lv_aload_n C.1 C.2.1 dX0_factorsBefore_18 rfl (lv_at hl 0 rfl) ?_
        refine x_get C Z 0 rfl rfl i_X0_X0_factorsBefore (k := 0) (by decide) (List.mem_of_getElem? (i := 2) rfl) rfl dX0_factorsBefore_19 ?_
        refine lv_iload C.1 C.2.1 dX0_factorsBefore_22 (lv_at hl 4 rfl) ?_
        have q25 := (ix_some h23).1
        have h26 := (ix_some h23).2
        clear h23
        refine x_iald C Z 1 rfl (by decide) q25 dX0_factorsBefore_24 ?_
        refine lv_aload_n C.1 C.2.1 dX0_factorsBefore_25 rfl (lv_at hl 2 rfl) ?_
        obtain ⟨r27, hr27, h28⟩ := bd_some h26
        clear h26
        refine x_callV_i_id (As := [.ref (aT 0), .int (iI (sB.starts z5.2)), .ref (aU 0)]) (rest := [.int (iI 0), .int (iI z5.1)]) (q0 := 0) C Z (k_X0_lengthBefore l g n aB aT aU sB sT sU (sB.starts z5.2) r27 hr27) gX0_factorsBefore_X0_lengthBefore yk_X0_lengthBefore ⟨Nat.le_of_ble_eq_true rfl, Nat.le_of_ble_eq_true rfl⟩ rfl rfl ⟨Nat.zero_le _, Nat.zero_le _⟩ hl.1 rfl (Nat.le_of_ble_eq_true rfl) rfl dX0_factorsBefore_26 (fun H locs Z => ?_)
        refine lv_aload_n C.1 C.2.1 dX0_factorsBefore_29 rfl (lv_at hl 0 rfl) ?_
        refine x_get C Z 0 rfl rfl i_X0_X0_factorsBefore (k := 1) (by decide) (List.mem_of_getElem? (i := 3) rfl) rfl dX0_factorsBefore_30 ?_
        refine lv_iload C.1 C.2.1 dX0_factorsBefore_33 (lv_at hl 4 rfl) ?_
        refine x_iald C Z 2 rfl (by decide) q25 dX0_factorsBefore_35 ?_
        refine x_isub C dX0_factorsBefore_36 ?_
        have q31 := (ck_some h28).1
        have h32 := (ck_some h28).2
        clear h28
        refine x_mmax (rest := [.int (iI z5.1)]) C hl.1 (List.mem_of_getElem? (i := 4) rfl) (List.mem_of_getElem? (i := 5) rfl) (List.mem_of_getElem? (i := 6) rfl) (List.mem_of_getElem? (i := 7) rfl) (by decide) (by decide) (Nat.le_of_ble_eq_true rfl) ⟨Nat.zero_le _, Nat.zero_le _⟩ (by decide) q31 dX0_factorsBefore_37 ?_
        refine x_iadd C dX0_factorsBefore_40 ?_
        refine lv_istore_n (lv' := [(3, .int (iI (z5.1 + (max 0 (r27 - (sB.shared z5.2)))))), (0, .ref (aB 0)), (1, .ref (aT 0)), (2, .ref (aU 0)), (4, .int (iI z5.2))]) C.1 C.2.1 dX0_factorsBefore_41 rfl hl (by decide) rfl (fun ls hl => ?_)
        refine x_iinc (lv' := [(4, .int (iI (z5.2 + 1))), (3, .int (iI (z5.1 + (max 0 (r27 - (sB.shared z5.2)))))), (0, .ref (aB 0)), (1, .ref (aT 0)), (2, .ref (aU 0))]) C dX0_factorsBefore_42 hl (k := 4) rfl (by decide) rfl (fun ls hl => ?_)
        refine lv_goto (tgt := 5) C.1 C.2.1 dX0_factorsBefore_45 (by decide) ?_
        cases h32
        exact ih5 (z5.1 + (max 0 (r27 - (sB.shared z5.2))), z5.2 + 1) _ _ _ (lp_L2 hx5) Z (lv_sub hl [2, 3, 4, 1, 0] rfl)
  exact hL5 n (0, 0) _ _ _ hl5 Z (lv_sub hl [2, 3, 4, 1, 0] rfl)
abbrev rmX6_before : Room := { frames := 6, cells := 0, slots := 0, locals := 135 }
theorem yk_X6_before : xY yX6_before RX6 cX6_before 1 (some .int) wsX6_before rmX6_before 0 := ⟨⟨_, rfl⟩, by decide +kernel, rfl, rfl⟩
theorem i_X0_X6_before : ∀ w ∈ u_ws RX0 TX0 4, w ∈ wsX6_before := fun _ h => List.mem_cons_of_mem _ (List.mem_append_right _ h)
theorem i_X2_X6_before : ∀ w ∈ u_ws RX2 TX2 5, w ∈ wsX6_before := fun _ h => List.mem_cons_of_mem _ (List.mem_append_left _ (List.mem_append_right _ h))
theorem i_X3_X6_before : ∀ w ∈ u_ws RX3 TX3 2, w ∈ wsX6_before := fun _ h => List.mem_cons_of_mem _ (List.mem_append_left _ (List.mem_append_left _ (List.mem_append_left _ (List.mem_append_right _ h))))
theorem i_X5_X6_before : ∀ w ∈ u_ws RX5 TX5 8, w ∈ wsX6_before := fun _ h => List.mem_cons_of_mem _ (List.mem_append_left _ (List.mem_append_left _ (List.mem_append_right _ h)))
theorem i_X6_X6_before : ∀ w ∈ u_ws RX6 TX6 11, w ∈ wsX6_before := fun _ h => List.mem_cons_of_mem _ (List.mem_append_left _ (List.mem_append_left _ (List.mem_append_left _ (List.mem_append_left _ (List.mem_append_right _ h)))))
set_option maxHeartbeats 4000000 in
set_option maxRecDepth 100000 in
theorem k_X6_before (l : Launch) (g : xG) (n : Nat) (aF : Nat → Nat) (aH : Nat → Nat) (aP : Nat → Nat) (aT : Nat → Nat) (aC : Nat → Nat) (aK : Nat → Nat) (aB : Nat → Nat) (aQ : Nat → Nat) (aU : Nat → Nat) (aV : Nat → Nat) (aS : Nat → Nat) (aR : Nat → Nat) (rr : Nat → Nat) (sF : Int) (sH : HisS) (sP : PadS) (sT : TxtS) (sC : ClsS) (sK : SwpS) (sB : BegS) (sQ : TxtS) (sU : TxtS) (sV : TxtS) (sS : SwpS) (sR : SwpS) (r : Int × TxtS × BegS × TxtS) (hf : p_X6_before n sF sH sP sT sB sQ = some r) : xMi l yX6_before wsX6_before rmX6_before g [.ref (aF 0)] ((wF g aF (aH 0) (aP 0) (aT 0) (aC 0) (aB 0) (aQ 0) (aU 0) (aV 0) (aS 0) (aR 0) sF ++ (wH g aH sH ++ (wP g aP sP ++ (wT g aT sT ++ (wC g aC (aK 0) rr sC ++ (wS g aK sK ++ (wB g aB sB ++ (wT g aQ sQ ++ (wT g aU sU ++ (wT g aV sV ++ (wS g aS sS ++ wS g aR sR))))))))))) ++ wR g rr sC.classOf) ((wF g aF (aH 0) (aP 0) (aT 0) (aC 0) (aB 0) (aQ 0) (aU 0) (aV 0) (aS 0) (aR 0) sF ++ (wH g aH sH ++ (wP g aP sP ++ (wT g aT r.2.1 ++ (wC g aC (aK 0) rr sC ++ (wS g aK sK ++ (wB g aB r.2.2.1 ++ (wT g aQ r.2.2.2 ++ (wT g aU sU ++ (wT g aV sV ++ (wS g aS sS ++ wS g aR sR))))))))))) ++ wR g rr sC.classOf) r.1 := by
  refine x_ofW_i (own := RX6) (by decide) rfl rfl (Nat.le_of_ble_eq_true rfl) ?_
  intro p e s m args below meth c ls A QQ C hRet Z hl
  have hl : lv_has ls 1 [(0, .ref (aF 0))] := hl
  unfold p_X6_before at hf
  refine lv_aload_n C.1 C.2.1 dX6_before_0 rfl (lv_at hl 0 rfl) ?_
  obtain ⟨r1, hr1, h2⟩ := bd_some hf
  clear hf
  refine x_callV_i_id (As := []) (rest := []) (q0 := 0) C Z (k_X6_readPattern l g n aF aH aP aT aC aK aB aQ aU aV aS aR rr sF sH sP sT sC sK sB sQ sU sV sS sR r1 hr1) gX6_before_X6_readPattern yk_X6_readPattern ⟨Nat.le_of_ble_eq_true rfl, Nat.le_of_ble_eq_true rfl⟩ rfl rfl ⟨Nat.zero_le _, Nat.zero_le _⟩ hl.1 rfl (Nat.le_of_ble_eq_true rfl) rfl dX6_before_1 (fun H locs Z => ?_)
  have q3 := (ck_some h2).1
  have h4 := (ck_some h2).2
  clear h2
  refine x_if_ne (tgt := 10) C dX6_before_4 (by decide) q3 (fun c5 => ?_) (fun c5 => ?_)
  · have h6 := if_n h4 c5
    clear h4
    refine lv_aload_n C.1 C.2.1 dX6_before_10 rfl (lv_at hl 0 rfl) ?_
    obtain ⟨r8, hr8, h9⟩ := bd_some h6
    clear h6
    refine x_callV_v_id (As := []) (rest := []) (q0 := 0) C Z (k_X6_showPresent l g n aF aH aP aT aC aK aB aQ aU aV aS aR rr sF sH sP sT sC sK sB r1.2 sU sV sS sR r8 hr8) gX6_before_X6_showPresent yk_X6_showPresent ⟨Nat.le_of_ble_eq_true rfl, Nat.le_of_ble_eq_true rfl⟩ rfl rfl ⟨Nat.zero_le _, Nat.zero_le _⟩ hl.1 rfl (Nat.le_of_ble_eq_true rfl) rfl dX6_before_11 (fun H locs Z => ?_)
    refine lv_aload_n C.1 C.2.1 dX6_before_14 rfl (lv_at hl 0 rfl) ?_
    refine x_get C Z 0 rfl rfl i_X6_X6_before (k := 4) (by decide) (List.mem_of_getElem? (i := 1) rfl) rfl dX6_before_15 ?_
    refine lv_aload_n C.1 C.2.1 dX6_before_18 rfl (lv_at hl 0 rfl) ?_
    refine x_get C Z 0 rfl rfl i_X6_X6_before (k := 2) (by decide) (List.mem_of_getElem? (i := 2) rfl) rfl dX6_before_19 ?_
    obtain ⟨r10, hr10, h11⟩ := bd_some h9
    clear h9
    refine x_callV_v_Q (As := [.ref (aT 0)]) (rest := []) (q0 := 0) (X2 := (wF g aF (aH 0) (aP 0) (aT 0) (aC 0) (aB 0) (aQ 0) (aU 0) (aV 0) (aS 0) (aR 0) sF ++ (wH g aH sH ++ (wP g aP sP ++ (wT g aT r8 ++ (wC g aC (aK 0) rr sC ++ (wS g aK sK ++ (wB g aB r10 ++ (wT g aQ r1.2 ++ (wT g aU sU ++ (wT g aV sV ++ (wS g aS sS ++ wS g aR sR)))))))))))) C Z fr_FHPTCKBQUVSR_6_3 (k_X0_refresh l g n aB aT sB r8 r10 hr10) gX6_before_X0_refresh yk_X0_refresh ⟨Nat.le_of_ble_eq_true rfl, Nat.le_of_ble_eq_true rfl⟩ rfl rfl ⟨Nat.zero_le _, Nat.zero_le _⟩ hl.1 rfl (Nat.le_of_ble_eq_true rfl) rfl dX6_before_22 (fun H locs Z => ?_)
    refine lv_aload_n C.1 C.2.1 dX6_before_25 rfl (lv_at hl 0 rfl) ?_
    refine x_get C Z 0 rfl rfl i_X6_X6_before (k := 4) (by decide) (List.mem_of_getElem? (i := 1) rfl) rfl dX6_before_26 ?_
    refine lv_aload_n C.1 C.2.1 dX6_before_29 rfl (lv_at hl 0 rfl) ?_
    refine x_get C Z 0 rfl rfl i_X6_X6_before (k := 2) (by decide) (List.mem_of_getElem? (i := 2) rfl) rfl dX6_before_30 ?_
    refine lv_aload_n C.1 C.2.1 dX6_before_33 rfl (lv_at hl 0 rfl) ?_
    refine x_get C Z 0 rfl rfl i_X6_X6_before (k := 5) (by decide) (List.mem_of_getElem? (i := 3) rfl) rfl dX6_before_34 ?_
    obtain ⟨r12, hr12, h13⟩ := bd_some h11
    clear h11
    refine x_callV_i_Q (As := [.ref (aT 0), .ref (aQ 0)]) (rest := []) (q0 := 0) (X2 := (wF g aF (aH 0) (aP 0) (aT 0) (aC 0) (aB 0) (aQ 0) (aU 0) (aV 0) (aS 0) (aR 0) sF ++ (wH g aH sH ++ (wP g aP sP ++ (wT g aT r8 ++ (wC g aC (aK 0) rr sC ++ (wS g aK sK ++ (wB g aB r10 ++ (wT g aQ r1.2 ++ (wT g aU sU ++ (wT g aV sV ++ (wS g aS sS ++ wS g aR sR)))))))))))) C Z fr_FHPTCKBQUVSR_6_3_7 (k_X0_factorsBefore l g n aB aT aQ r10 r8 r1.2 r12 hr12) gX6_before_X0_factorsBefore yk_X0_factorsBefore ⟨Nat.le_of_ble_eq_true rfl, Nat.le_of_ble_eq_true rfl⟩ rfl rfl ⟨Nat.zero_le _, Nat.zero_le _⟩ hl.1 rfl (Nat.le_of_ble_eq_true rfl) rfl dX6_before_37 (fun H locs Z => ?_)
    have h14 := Option.some.inj h13
    subst h14
    exact hRet _ _ _ _ Z dX6_before_40
  · have h7 := if_p h4 c5
    clear h4
    refine x_bipush C dX6_before_7 (by decide) ?_
    have h15 := Option.some.inj h7
    subst h15
    exact hRet _ _ _ _ Z dX6_before_9
abbrev rmX1_firstEndOf : Room := { frames := 1, cells := 0, slots := 0, locals := 21 }
theorem yk_X1_firstEndOf : xY yX1_firstEndOf RX1 cX1_firstEndOf 2 (some .int) wsX1_firstEndOf rmX1_firstEndOf 1 := ⟨⟨_, rfl⟩, by decide +kernel, rfl, rfl⟩
theorem i_X1_X1_firstEndOf : ∀ w ∈ u_ws RX1 TX1 13, w ∈ wsX1_firstEndOf := fun _ h => List.mem_cons_of_mem _ (List.mem_append_right _ h)
set_option maxHeartbeats 4000000 in
set_option maxRecDepth 100000 in
theorem k_X1_firstEndOf (l : Launch) (g : xG) (n : Nat) (aC : Nat → Nat) (aK : Nat → Nat) (rr : Nat → Nat) (sC : ClsS) (sK : SwpS) (v1 : Int) (r : Int) (hf : p_X1_firstEndOf sC v1 = some r) : xMi l yX1_firstEndOf wsX1_firstEndOf rmX1_firstEndOf g [.ref (aC 0), .int (iI v1)] ((wC g aC (aK 0) rr sC ++ wS g aK sK) ++ wR g rr sC.classOf) ((wC g aC (aK 0) rr sC ++ wS g aK sK) ++ wR g rr sC.classOf) r := by
  refine x_ofW_i (own := RX1) (by decide) rfl rfl (Nat.le_of_ble_eq_true rfl) ?_
  intro p e s m args below meth c ls A QQ C hRet Z hl
  have hl : lv_has ls 2 [(0, .ref (aC 0)), (1, .int (iI v1))] := hl
  unfold p_X1_firstEndOf at hf
  refine lv_aload_n C.1 C.2.1 dX1_firstEndOf_0 rfl (lv_at hl 0 rfl) ?_
  refine lv_iload_n C.1 C.2.1 dX1_firstEndOf_1 rfl (lv_at hl 1 rfl) ?_
  obtain ⟨r1, hr1, h2⟩ := bd_some hf
  clear hf
  refine x_callV_i_id (As := [.int (iI v1)]) (rest := []) (q0 := 0) C Z (k_X1_has l g n aC aK rr sC sK v1 r1 hr1) gX1_firstEndOf_X1_has yk_X1_has ⟨Nat.le_of_ble_eq_true rfl, Nat.le_of_ble_eq_true rfl⟩ rfl rfl ⟨Nat.zero_le _, Nat.zero_le _⟩ hl.1 rfl (Nat.le_of_ble_eq_true rfl) rfl dX1_firstEndOf_2 (fun H locs Z => ?_)
  have q3 := (ck_some h2).1
  have h4 := (ck_some h2).2
  clear h2
  refine x_if_eq (tgt := 17) C dX1_firstEndOf_5 (by decide) q3 (fun c5 => ?_) (fun c5 => ?_)
  · have h6 := if_p h4 c5
    clear h4
    refine x_iconst C dX1_firstEndOf_17 ?_
    have h8 := Option.some.inj h6
    subst h8
    exact hRet _ _ _ _ Z dX1_firstEndOf_18
  · have h7 := if_n h4 c5
    clear h4
    refine lv_aload_n C.1 C.2.1 dX1_firstEndOf_8 rfl (lv_at hl 0 rfl) ?_
    refine x_get C Z 0 rfl rfl i_X1_X1_firstEndOf (k := 3) (by decide) (List.mem_of_getElem? (i := 1) rfl) rfl dX1_firstEndOf_9 ?_
    refine lv_iload_n C.1 C.2.1 dX1_firstEndOf_12 rfl (lv_at hl 1 rfl) ?_
    have q9 := (ix_some h7).1
    have h10 := (ix_some h7).2
    clear h7
    refine x_iald C Z 3 rfl (by decide) q9 dX1_firstEndOf_13 ?_
    refine lv_goto (tgt := 18) C.1 C.2.1 dX1_firstEndOf_14 (by decide) ?_
    have h11 := Option.some.inj h10
    subst h11
    exact hRet _ _ _ _ Z dX1_firstEndOf_18
abbrev rmX1_wordsOf : Room := { frames := 1, cells := 0, slots := 0, locals := 21 }
theorem yk_X1_wordsOf : xY yX1_wordsOf RX1 cX1_wordsOf 2 (some .int) wsX1_wordsOf rmX1_wordsOf 1 := ⟨⟨_, rfl⟩, by decide +kernel, rfl, rfl⟩
theorem i_X1_X1_wordsOf : ∀ w ∈ u_ws RX1 TX1 13, w ∈ wsX1_wordsOf := fun _ h => List.mem_cons_of_mem _ (List.mem_append_right _ h)
set_option maxHeartbeats 4000000 in
set_option maxRecDepth 100000 in
theorem k_X1_wordsOf (l : Launch) (g : xG) (n : Nat) (aC : Nat → Nat) (aK : Nat → Nat) (rr : Nat → Nat) (sC : ClsS) (sK : SwpS) (v1 : Int) (r : Int) (hf : p_X1_wordsOf sC v1 = some r) : xMi l yX1_wordsOf wsX1_wordsOf rmX1_wordsOf g [.ref (aC 0), .int (iI v1)] ((wC g aC (aK 0) rr sC ++ wS g aK sK) ++ wR g rr sC.classOf) ((wC g aC (aK 0) rr sC ++ wS g aK sK) ++ wR g rr sC.classOf) r := by
  refine x_ofW_i (own := RX1) (by decide) rfl rfl (Nat.le_of_ble_eq_true rfl) ?_
  intro p e s m args below meth c ls A QQ C hRet Z hl
  have hl : lv_has ls 2 [(0, .ref (aC 0)), (1, .int (iI v1))] := hl
  unfold p_X1_wordsOf at hf
  refine lv_aload_n C.1 C.2.1 dX1_wordsOf_0 rfl (lv_at hl 0 rfl) ?_
  refine lv_iload_n C.1 C.2.1 dX1_wordsOf_1 rfl (lv_at hl 1 rfl) ?_
  obtain ⟨r1, hr1, h2⟩ := bd_some hf
  clear hf
  refine x_callV_i_id (As := [.int (iI v1)]) (rest := []) (q0 := 0) C Z (k_X1_has l g n aC aK rr sC sK v1 r1 hr1) gX1_wordsOf_X1_has yk_X1_has ⟨Nat.le_of_ble_eq_true rfl, Nat.le_of_ble_eq_true rfl⟩ rfl rfl ⟨Nat.zero_le _, Nat.zero_le _⟩ hl.1 rfl (Nat.le_of_ble_eq_true rfl) rfl dX1_wordsOf_2 (fun H locs Z => ?_)
  have q3 := (ck_some h2).1
  have h4 := (ck_some h2).2
  clear h2
  refine x_if_eq (tgt := 17) C dX1_wordsOf_5 (by decide) q3 (fun c5 => ?_) (fun c5 => ?_)
  · have h6 := if_p h4 c5
    clear h4
    refine x_iconst C dX1_wordsOf_17 ?_
    have h8 := Option.some.inj h6
    subst h8
    exact hRet _ _ _ _ Z dX1_wordsOf_18
  · have h7 := if_n h4 c5
    clear h4
    refine lv_aload_n C.1 C.2.1 dX1_wordsOf_8 rfl (lv_at hl 0 rfl) ?_
    refine x_get C Z 0 rfl rfl i_X1_X1_wordsOf (k := 8) (by decide) (List.mem_of_getElem? (i := 1) rfl) rfl dX1_wordsOf_9 ?_
    refine lv_iload_n C.1 C.2.1 dX1_wordsOf_12 rfl (lv_at hl 1 rfl) ?_
    have q9 := (ix_some h7).1
    have h10 := (ix_some h7).2
    clear h7
    refine x_iald C Z 8 rfl (by decide) q9 dX1_wordsOf_13 ?_
    refine lv_goto (tgt := 18) C.1 C.2.1 dX1_wordsOf_14 (by decide) ?_
    have h11 := Option.some.inj h10
    subst h11
    exact hRet _ _ _ _ Z dX1_wordsOf_18
abbrev rmX1_stepsOf : Room := { frames := 1, cells := 0, slots := 0, locals := 21 }
theorem yk_X1_stepsOf : xY yX1_stepsOf RX1 cX1_stepsOf 2 (some .int) wsX1_stepsOf rmX1_stepsOf 1 := ⟨⟨_, rfl⟩, by decide +kernel, rfl, rfl⟩
theorem i_X1_X1_stepsOf : ∀ w ∈ u_ws RX1 TX1 13, w ∈ wsX1_stepsOf := fun _ h => List.mem_cons_of_mem _ (List.mem_append_right _ h)
set_option maxHeartbeats 4000000 in
set_option maxRecDepth 100000 in
theorem k_X1_stepsOf (l : Launch) (g : xG) (n : Nat) (aC : Nat → Nat) (aK : Nat → Nat) (rr : Nat → Nat) (sC : ClsS) (sK : SwpS) (v1 : Int) (r : Int) (hf : p_X1_stepsOf sC v1 = some r) : xMi l yX1_stepsOf wsX1_stepsOf rmX1_stepsOf g [.ref (aC 0), .int (iI v1)] ((wC g aC (aK 0) rr sC ++ wS g aK sK) ++ wR g rr sC.classOf) ((wC g aC (aK 0) rr sC ++ wS g aK sK) ++ wR g rr sC.classOf) r := by
  refine x_ofW_i (own := RX1) (by decide) rfl rfl (Nat.le_of_ble_eq_true rfl) ?_
  intro p e s m args below meth c ls A QQ C hRet Z hl
  have hl : lv_has ls 2 [(0, .ref (aC 0)), (1, .int (iI v1))] := hl
  unfold p_X1_stepsOf at hf
  refine lv_aload_n C.1 C.2.1 dX1_stepsOf_0 rfl (lv_at hl 0 rfl) ?_
  refine lv_iload_n C.1 C.2.1 dX1_stepsOf_1 rfl (lv_at hl 1 rfl) ?_
  obtain ⟨r1, hr1, h2⟩ := bd_some hf
  clear hf
  refine x_callV_i_id (As := [.int (iI v1)]) (rest := []) (q0 := 0) C Z (k_X1_has l g n aC aK rr sC sK v1 r1 hr1) gX1_stepsOf_X1_has yk_X1_has ⟨Nat.le_of_ble_eq_true rfl, Nat.le_of_ble_eq_true rfl⟩ rfl rfl ⟨Nat.zero_le _, Nat.zero_le _⟩ hl.1 rfl (Nat.le_of_ble_eq_true rfl) rfl dX1_stepsOf_2 (fun H locs Z => ?_)
  have q3 := (ck_some h2).1
  have h4 := (ck_some h2).2
  clear h2
  refine x_if_eq (tgt := 17) C dX1_stepsOf_5 (by decide) q3 (fun c5 => ?_) (fun c5 => ?_)
  · have h6 := if_p h4 c5
    clear h4
    refine lv_aload_n C.1 C.2.1 dX1_stepsOf_17 rfl (lv_at hl 0 rfl) ?_
    refine x_get C Z 0 rfl rfl i_X1_X1_stepsOf (k := 10) (by decide) (List.mem_of_getElem? (i := 2) rfl) rfl dX1_stepsOf_18 ?_
    have h8 := Option.some.inj h6
    subst h8
    exact hRet _ _ _ _ Z dX1_stepsOf_21
  · have h7 := if_n h4 c5
    clear h4
    refine lv_aload_n C.1 C.2.1 dX1_stepsOf_8 rfl (lv_at hl 0 rfl) ?_
    refine x_get C Z 0 rfl rfl i_X1_X1_stepsOf (k := 9) (by decide) (List.mem_of_getElem? (i := 1) rfl) rfl dX1_stepsOf_9 ?_
    refine lv_iload_n C.1 C.2.1 dX1_stepsOf_12 rfl (lv_at hl 1 rfl) ?_
    have q9 := (ix_some h7).1
    have h10 := (ix_some h7).2
    clear h7
    refine x_iald C Z 9 rfl (by decide) q9 dX1_stepsOf_13 ?_
    refine lv_goto (tgt := 21) C.1 C.2.1 dX1_stepsOf_14 (by decide) ?_
    have h11 := Option.some.inj h10
    subst h11
    exact hRet _ _ _ _ Z dX1_stepsOf_21
abbrev rmX1_linkOf : Room := { frames := 1, cells := 0, slots := 0, locals := 21 }
theorem yk_X1_linkOf : xY yX1_linkOf RX1 cX1_linkOf 2 (some .int) wsX1_linkOf rmX1_linkOf 1 := ⟨⟨_, rfl⟩, by decide +kernel, rfl, rfl⟩
theorem i_X1_X1_linkOf : ∀ w ∈ u_ws RX1 TX1 13, w ∈ wsX1_linkOf := fun _ h => List.mem_cons_of_mem _ (List.mem_append_right _ h)
set_option maxHeartbeats 4000000 in
set_option maxRecDepth 100000 in
theorem k_X1_linkOf (l : Launch) (g : xG) (n : Nat) (aC : Nat → Nat) (aK : Nat → Nat) (rr : Nat → Nat) (sC : ClsS) (sK : SwpS) (v1 : Int) (r : Int) (hf : p_X1_linkOf sC v1 = some r) : xMi l yX1_linkOf wsX1_linkOf rmX1_linkOf g [.ref (aC 0), .int (iI v1)] ((wC g aC (aK 0) rr sC ++ wS g aK sK) ++ wR g rr sC.classOf) ((wC g aC (aK 0) rr sC ++ wS g aK sK) ++ wR g rr sC.classOf) r := by
  refine x_ofW_i (own := RX1) (by decide) rfl rfl (Nat.le_of_ble_eq_true rfl) ?_
  intro p e s m args below meth c ls A QQ C hRet Z hl
  have hl : lv_has ls 2 [(0, .ref (aC 0)), (1, .int (iI v1))] := hl
  unfold p_X1_linkOf at hf
  refine lv_aload_n C.1 C.2.1 dX1_linkOf_0 rfl (lv_at hl 0 rfl) ?_
  refine lv_iload_n C.1 C.2.1 dX1_linkOf_1 rfl (lv_at hl 1 rfl) ?_
  obtain ⟨r1, hr1, h2⟩ := bd_some hf
  clear hf
  refine x_callV_i_id (As := [.int (iI v1)]) (rest := []) (q0 := 0) C Z (k_X1_has l g n aC aK rr sC sK v1 r1 hr1) gX1_linkOf_X1_has yk_X1_has ⟨Nat.le_of_ble_eq_true rfl, Nat.le_of_ble_eq_true rfl⟩ rfl rfl ⟨Nat.zero_le _, Nat.zero_le _⟩ hl.1 rfl (Nat.le_of_ble_eq_true rfl) rfl dX1_linkOf_2 (fun H locs Z => ?_)
  have q3 := (ck_some h2).1
  have h4 := (ck_some h2).2
  clear h2
  refine x_if_eq (tgt := 17) C dX1_linkOf_5 (by decide) q3 (fun c5 => ?_) (fun c5 => ?_)
  · have h6 := if_p h4 c5
    clear h4
    refine x_bipush C dX1_linkOf_17 (by decide) ?_
    have h8 := Option.some.inj h6
    subst h8
    exact hRet _ _ _ _ Z dX1_linkOf_19
  · have h7 := if_n h4 c5
    clear h4
    refine lv_aload_n C.1 C.2.1 dX1_linkOf_8 rfl (lv_at hl 0 rfl) ?_
    refine x_get C Z 0 rfl rfl i_X1_X1_linkOf (k := 7) (by decide) (List.mem_of_getElem? (i := 1) rfl) rfl dX1_linkOf_9 ?_
    refine lv_iload_n C.1 C.2.1 dX1_linkOf_12 rfl (lv_at hl 1 rfl) ?_
    have q9 := (ix_some h7).1
    have h10 := (ix_some h7).2
    clear h7
    refine x_iald C Z 7 rfl (by decide) q9 dX1_linkOf_13 ?_
    refine lv_goto (tgt := 19) C.1 C.2.1 dX1_linkOf_14 (by decide) ?_
    have h11 := Option.some.inj h10
    subst h11
    exact hRet _ _ _ _ Z dX1_linkOf_19
abbrev rmX1_shortestIn : Room := { frames := 1, cells := 0, slots := 0, locals := 21 }
theorem yk_X1_shortestIn : xY yX1_shortestIn RX1 cX1_shortestIn 2 (some .int) wsX1_shortestIn rmX1_shortestIn 1 := ⟨⟨_, rfl⟩, by decide +kernel, rfl, rfl⟩
theorem i_X1_X1_shortestIn : ∀ w ∈ u_ws RX1 TX1 13, w ∈ wsX1_shortestIn := fun _ h => List.mem_cons_of_mem _ (List.mem_append_right _ h)
set_option maxHeartbeats 4000000 in
set_option maxRecDepth 100000 in
theorem k_X1_shortestIn (l : Launch) (g : xG) (n : Nat) (aC : Nat → Nat) (aK : Nat → Nat) (rr : Nat → Nat) (sC : ClsS) (sK : SwpS) (v1 : Int) (r : Int) (hf : p_X1_shortestIn sC v1 = some r) : xMi l yX1_shortestIn wsX1_shortestIn rmX1_shortestIn g [.ref (aC 0), .int (iI v1)] ((wC g aC (aK 0) rr sC ++ wS g aK sK) ++ wR g rr sC.classOf) ((wC g aC (aK 0) rr sC ++ wS g aK sK) ++ wR g rr sC.classOf) r := by
  refine x_ofW_i (own := RX1) (by decide) rfl rfl (Nat.le_of_ble_eq_true rfl) ?_
  intro p e s m args below meth c ls A QQ C hRet Z hl
  have hl : lv_has ls 2 [(0, .ref (aC 0)), (1, .int (iI v1))] := hl
  unfold p_X1_shortestIn at hf
  refine lv_aload_n C.1 C.2.1 dX1_shortestIn_0 rfl (lv_at hl 0 rfl) ?_
  refine lv_iload_n C.1 C.2.1 dX1_shortestIn_1 rfl (lv_at hl 1 rfl) ?_
  obtain ⟨r1, hr1, h2⟩ := bd_some hf
  clear hf
  refine x_callV_i_id (As := [.int (iI v1)]) (rest := []) (q0 := 0) C Z (k_X1_has l g n aC aK rr sC sK v1 r1 hr1) gX1_shortestIn_X1_has yk_X1_has ⟨Nat.le_of_ble_eq_true rfl, Nat.le_of_ble_eq_true rfl⟩ rfl rfl ⟨Nat.zero_le _, Nat.zero_le _⟩ hl.1 rfl (Nat.le_of_ble_eq_true rfl) rfl dX1_shortestIn_2 (fun H locs Z => ?_)
  have q3 := (ck_some h2).1
  have h4 := (ck_some h2).2
  clear h2
  refine x_if_eq (tgt := 17) C dX1_shortestIn_5 (by decide) q3 (fun c5 => ?_) (fun c5 => ?_)
  · have h6 := if_p h4 c5
    clear h4
    refine x_iconst C dX1_shortestIn_17 ?_
    have h8 := Option.some.inj h6
    subst h8
    exact hRet _ _ _ _ Z dX1_shortestIn_18
  · have h7 := if_n h4 c5
    clear h4
    refine lv_aload_n C.1 C.2.1 dX1_shortestIn_8 rfl (lv_at hl 0 rfl) ?_
    refine x_get C Z 0 rfl rfl i_X1_X1_shortestIn (k := 5) (by decide) (List.mem_of_getElem? (i := 1) rfl) rfl dX1_shortestIn_9 ?_
    refine lv_iload_n C.1 C.2.1 dX1_shortestIn_12 rfl (lv_at hl 1 rfl) ?_
    have q9 := (ix_some h7).1
    have h10 := (ix_some h7).2
    clear h7
    refine x_iald C Z 5 rfl (by decide) q9 dX1_shortestIn_13 ?_
    refine lv_goto (tgt := 18) C.1 C.2.1 dX1_shortestIn_14 (by decide) ?_
    have h11 := Option.some.inj h10
    subst h11
    exact hRet _ _ _ _ Z dX1_shortestIn_18
abbrev rmX1_longestIn : Room := { frames := 1, cells := 0, slots := 0, locals := 21 }
theorem yk_X1_longestIn : xY yX1_longestIn RX1 cX1_longestIn 2 (some .int) wsX1_longestIn rmX1_longestIn 1 := ⟨⟨_, rfl⟩, by decide +kernel, rfl, rfl⟩
theorem i_X1_X1_longestIn : ∀ w ∈ u_ws RX1 TX1 13, w ∈ wsX1_longestIn := fun _ h => List.mem_cons_of_mem _ (List.mem_append_right _ h)
set_option maxHeartbeats 4000000 in
set_option maxRecDepth 100000 in
theorem k_X1_longestIn (l : Launch) (g : xG) (n : Nat) (aC : Nat → Nat) (aK : Nat → Nat) (rr : Nat → Nat) (sC : ClsS) (sK : SwpS) (v1 : Int) (r : Int) (hf : p_X1_longestIn sC v1 = some r) : xMi l yX1_longestIn wsX1_longestIn rmX1_longestIn g [.ref (aC 0), .int (iI v1)] ((wC g aC (aK 0) rr sC ++ wS g aK sK) ++ wR g rr sC.classOf) ((wC g aC (aK 0) rr sC ++ wS g aK sK) ++ wR g rr sC.classOf) r := by
  refine x_ofW_i (own := RX1) (by decide) rfl rfl (Nat.le_of_ble_eq_true rfl) ?_
  intro p e s m args below meth c ls A QQ C hRet Z hl
  have hl : lv_has ls 2 [(0, .ref (aC 0)), (1, .int (iI v1))] := hl
  unfold p_X1_longestIn at hf
  refine lv_aload_n C.1 C.2.1 dX1_longestIn_0 rfl (lv_at hl 0 rfl) ?_
  refine lv_iload_n C.1 C.2.1 dX1_longestIn_1 rfl (lv_at hl 1 rfl) ?_
  obtain ⟨r1, hr1, h2⟩ := bd_some hf
  clear hf
  refine x_callV_i_id (As := [.int (iI v1)]) (rest := []) (q0 := 0) C Z (k_X1_has l g n aC aK rr sC sK v1 r1 hr1) gX1_longestIn_X1_has yk_X1_has ⟨Nat.le_of_ble_eq_true rfl, Nat.le_of_ble_eq_true rfl⟩ rfl rfl ⟨Nat.zero_le _, Nat.zero_le _⟩ hl.1 rfl (Nat.le_of_ble_eq_true rfl) rfl dX1_longestIn_2 (fun H locs Z => ?_)
  have q3 := (ck_some h2).1
  have h4 := (ck_some h2).2
  clear h2
  refine x_if_eq (tgt := 17) C dX1_longestIn_5 (by decide) q3 (fun c5 => ?_) (fun c5 => ?_)
  · have h6 := if_p h4 c5
    clear h4
    refine x_iconst C dX1_longestIn_17 ?_
    have h8 := Option.some.inj h6
    subst h8
    exact hRet _ _ _ _ Z dX1_longestIn_18
  · have h7 := if_n h4 c5
    clear h4
    refine lv_aload_n C.1 C.2.1 dX1_longestIn_8 rfl (lv_at hl 0 rfl) ?_
    refine x_get C Z 0 rfl rfl i_X1_X1_longestIn (k := 4) (by decide) (List.mem_of_getElem? (i := 1) rfl) rfl dX1_longestIn_9 ?_
    refine lv_iload_n C.1 C.2.1 dX1_longestIn_12 rfl (lv_at hl 1 rfl) ?_
    have q9 := (ix_some h7).1
    have h10 := (ix_some h7).2
    clear h7
    refine x_iald C Z 4 rfl (by decide) q9 dX1_longestIn_13 ?_
    refine lv_goto (tgt := 18) C.1 C.2.1 dX1_longestIn_14 (by decide) ?_
    have h11 := Option.some.inj h10
    subst h11
    exact hRet _ _ _ _ Z dX1_longestIn_18
abbrev rmX6_group : Room := { frames := 6, cells := 0, slots := 0, locals := 139 }
theorem yk_X6_group : xY yX6_group RX6 cX6_group 3 (some .int) wsX6_group rmX6_group 2 := ⟨⟨_, rfl⟩, by decide +kernel, rfl, rfl⟩
theorem i_X1_X6_group : ∀ w ∈ u_ws RX1 TX1 13, w ∈ wsX6_group := fun _ h => List.mem_cons_of_mem _ (List.mem_append_left _ (List.mem_append_right _ h))
theorem i_X2_X6_group : ∀ w ∈ u_ws RX2 TX2 5, w ∈ wsX6_group := fun _ h => List.mem_cons_of_mem _ (List.mem_append_left _ (List.mem_append_left _ (List.mem_append_right _ h)))
theorem i_X4_X6_group : ∀ w ∈ u_ws RX4 TX4 1, w ∈ wsX6_group := fun _ h => List.mem_cons_of_mem _ (List.mem_append_right _ h)
theorem i_X5_X6_group : ∀ w ∈ u_ws RX5 TX5 8, w ∈ wsX6_group := fun _ h => List.mem_cons_of_mem _ (List.mem_append_left _ (List.mem_append_left _ (List.mem_append_left _ (List.mem_append_right _ h))))
theorem i_X6_X6_group : ∀ w ∈ u_ws RX6 TX6 11, w ∈ wsX6_group := fun _ h => List.mem_cons_of_mem _ (List.mem_append_left _ (List.mem_append_left _ (List.mem_append_left _ (List.mem_append_left _ (List.mem_append_right _ h)))))
set_option maxHeartbeats 4000000 in
set_option maxRecDepth 100000 in
theorem k_X6_group (l : Launch) (g : xG) (n : Nat) (aF : Nat → Nat) (aH : Nat → Nat) (aP : Nat → Nat) (aT : Nat → Nat) (aC : Nat → Nat) (aK : Nat → Nat) (aB : Nat → Nat) (aQ : Nat → Nat) (aU : Nat → Nat) (aV : Nat → Nat) (aS : Nat → Nat) (aR : Nat → Nat) (rr : Nat → Nat) (sF : Int) (sH : HisS) (sP : PadS) (sT : TxtS) (sC : ClsS) (sK : SwpS) (sB : BegS) (sQ : TxtS) (sU : TxtS) (sV : TxtS) (sS : SwpS) (sR : SwpS) (v1 : Int) (v2 : Int) (r : Int × TxtS × ClsS × SwpS) (hf : p_X6_group n sF sH sT sC sK v1 v2 = some r) : xMi l yX6_group wsX6_group rmX6_group g [.ref (aF 0), .int (iI v1), .int (iI v2)] ((wF g aF (aH 0) (aP 0) (aT 0) (aC 0) (aB 0) (aQ 0) (aU 0) (aV 0) (aS 0) (aR 0) sF ++ (wH g aH sH ++ (wP g aP sP ++ (wT g aT sT ++ (wC g aC (aK 0) rr sC ++ (wS g aK sK ++ (wB g aB sB ++ (wT g aQ sQ ++ (wT g aU sU ++ (wT g aV sV ++ (wS g aS sS ++ wS g aR sR))))))))))) ++ wR g rr sC.classOf) ((wF g aF (aH 0) (aP 0) (aT 0) (aC 0) (aB 0) (aQ 0) (aU 0) (aV 0) (aS 0) (aR 0) sF ++ (wH g aH sH ++ (wP g aP sP ++ (wT g aT r.2.1 ++ (wC g aC (aK 0) rr r.2.2.1 ++ (wS g aK r.2.2.2 ++ (wB g aB sB ++ (wT g aQ sQ ++ (wT g aU sU ++ (wT g aV sV ++ (wS g aS sS ++ wS g aR sR))))))))))) ++ wR g rr r.2.2.1.classOf) r.1 := by
  refine x_ofW_i (own := RX6) (by decide) rfl rfl (Nat.le_of_ble_eq_true rfl) ?_
  intro p e s m args below meth c ls A QQ C hRet Z hl
  have hl : lv_has ls 3 [(0, .ref (aF 0)), (1, .int (iI v1)), (2, .int (iI v2))] := hl
  unfold p_X6_group at hf
  refine lv_aload_n C.1 C.2.1 dX6_group_0 rfl (lv_at hl 0 rfl) ?_
  obtain ⟨r1, hr1, h2⟩ := bd_some hf
  clear hf
  refine x_callV_v_id (As := []) (rest := []) (q0 := 0) C Z (k_X6_showClasses l g n aF aH aP aT aC aK aB aQ aU aV aS aR rr sF sH sP sT sC sK sB sQ sU sV sS sR r1 hr1) gX6_group_X6_showClasses yk_X6_showClasses ⟨Nat.le_of_ble_eq_true rfl, Nat.le_of_ble_eq_true rfl⟩ rfl rfl ⟨Nat.zero_le _, Nat.zero_le _⟩ hl.1 rfl (Nat.le_of_ble_eq_true rfl) rfl dX6_group_1 (fun H locs Z => ?_)
  refine lv_aload_n C.1 C.2.1 dX6_group_4 rfl (lv_at hl 0 rfl) ?_
  refine x_get C Z 0 rfl rfl i_X6_X6_group (k := 3) (by decide) (List.mem_of_getElem? (i := 1) rfl) rfl dX6_group_5 ?_
  refine lv_iload_n C.1 C.2.1 dX6_group_8 rfl (lv_at hl 1 rfl) ?_
  obtain ⟨r3, hr3, h4⟩ := bd_some h2
  clear h2
  refine x_callV_i_P (As := [.int (iI v1)]) (rest := []) (q0 := 0) (X2 := (wF g aF (aH 0) (aP 0) (aT 0) (aC 0) (aB 0) (aQ 0) (aU 0) (aV 0) (aS 0) (aR 0) sF ++ (wH g aH sH ++ (wP g aP sP ++ (wT g aT r1.1 ++ (wC g aC (aK 0) rr r1.2.1 ++ (wS g aK r1.2.2 ++ (wB g aB sB ++ (wT g aQ sQ ++ (wT g aU sU ++ (wT g aV sV ++ (wS g aS sS ++ wS g aR sR)))))))))))) C Z fr_FHPTCKBQUVSR_4_5 (k_X1_has l g n aC aK rr r1.2.1 r1.2.2 v1 r3 hr3) gX6_group_X1_has yk_X1_has ⟨Nat.le_of_ble_eq_true rfl, Nat.le_of_ble_eq_true rfl⟩ rfl rfl ⟨Nat.zero_le _, Nat.zero_le _⟩ hl.1 rfl (Nat.le_of_ble_eq_true rfl) rfl dX6_group_9 (fun H locs Z => ?_)
  have q5 := (ck_some h4).1
  have h6 := (ck_some h4).2
  clear h4
  refine x_if_ne (tgt := 17) C dX6_group_12 (by decide) q5 (fun c7 => ?_) (fun c7 => ?_)
  · have h8 := if_n h6 c7
    clear h6
    refine lv_iload_n C.1 C.2.1 dX6_group_17 rfl (lv_at hl 2 rfl) ?_
    have q10 := (ck_some h8).1
    have h11 := (ck_some h8).2
    clear h8
    by_cases c12 : v2 = 0
    · have h13 := if_p h11 c12
      clear h11
      refine x_tin (tgt := 60) C dX6_group_18 q10 c12 (by decide) (by decide) (by rfl) (by decide) ?_
      refine lv_aload_n C.1 C.2.1 dX6_group_60 rfl (lv_at hl 0 rfl) ?_
      refine x_get C Z 0 rfl rfl i_X6_X6_group (k := 3) (by decide) (List.mem_of_getElem? (i := 1) rfl) rfl dX6_group_61 ?_
      refine lv_iload_n C.1 C.2.1 dX6_group_64 rfl (lv_at hl 1 rfl) ?_
      obtain ⟨r15, hr15, h16⟩ := bd_some h13
      clear h13
      refine x_callV_i_P (As := [.int (iI v1)]) (rest := []) (q0 := 0) (X2 := (wF g aF (aH 0) (aP 0) (aT 0) (aC 0) (aB 0) (aQ 0) (aU 0) (aV 0) (aS 0) (aR 0) sF ++ (wH g aH sH ++ (wP g aP sP ++ (wT g aT r1.1 ++ (wC g aC (aK 0) rr r1.2.1 ++ (wS g aK r1.2.2 ++ (wB g aB sB ++ (wT g aQ sQ ++ (wT g aU sU ++ (wT g aV sV ++ (wS g aS sS ++ wS g aR sR)))))))))))) C Z fr_FHPTCKBQUVSR_4_5 (k_X1_longestIn l g n aC aK rr r1.2.1 r1.2.2 v1 r15 hr15) gX6_group_X1_longestIn yk_X1_longestIn ⟨Nat.le_of_ble_eq_true rfl, Nat.le_of_ble_eq_true rfl⟩ rfl rfl ⟨Nat.zero_le _, Nat.zero_le _⟩ hl.1 rfl (Nat.le_of_ble_eq_true rfl) rfl dX6_group_65 (fun H locs Z => ?_)
      have h17 := Option.some.inj h16
      subst h17
      exact hRet _ _ _ _ Z dX6_group_68
    have h14 := if_n h11 c12
    clear h11
    by_cases c18 : v2 = 1
    · have h19 := if_p h14 c18
      clear h14
      refine x_tin (tgt := 69) C dX6_group_18 q10 c18 (by decide) (by decide) (by rfl) (by decide) ?_
      refine lv_aload_n C.1 C.2.1 dX6_group_69 rfl (lv_at hl 0 rfl) ?_
      refine x_get C Z 0 rfl rfl i_X6_X6_group (k := 3) (by decide) (List.mem_of_getElem? (i := 1) rfl) rfl dX6_group_70 ?_
      refine lv_iload_n C.1 C.2.1 dX6_group_73 rfl (lv_at hl 1 rfl) ?_
      obtain ⟨r21, hr21, h22⟩ := bd_some h19
      clear h19
      refine x_callV_i_P (As := [.int (iI v1)]) (rest := []) (q0 := 0) (X2 := (wF g aF (aH 0) (aP 0) (aT 0) (aC 0) (aB 0) (aQ 0) (aU 0) (aV 0) (aS 0) (aR 0) sF ++ (wH g aH sH ++ (wP g aP sP ++ (wT g aT r1.1 ++ (wC g aC (aK 0) rr r1.2.1 ++ (wS g aK r1.2.2 ++ (wB g aB sB ++ (wT g aQ sQ ++ (wT g aU sU ++ (wT g aV sV ++ (wS g aS sS ++ wS g aR sR)))))))))))) C Z fr_FHPTCKBQUVSR_4_5 (k_X1_shortestIn l g n aC aK rr r1.2.1 r1.2.2 v1 r21 hr21) gX6_group_X1_shortestIn yk_X1_shortestIn ⟨Nat.le_of_ble_eq_true rfl, Nat.le_of_ble_eq_true rfl⟩ rfl rfl ⟨Nat.zero_le _, Nat.zero_le _⟩ hl.1 rfl (Nat.le_of_ble_eq_true rfl) rfl dX6_group_74 (fun H locs Z => ?_)
      have h23 := Option.some.inj h22
      subst h23
      exact hRet _ _ _ _ Z dX6_group_77
    have h20 := if_n h14 c18
    clear h14
    by_cases c24 : v2 = 2
    · have h25 := if_p h20 c24
      clear h20
      refine x_tin (tgt := 78) C dX6_group_18 q10 c24 (by decide) (by decide) (by rfl) (by decide) ?_
      refine lv_aload_n C.1 C.2.1 dX6_group_78 rfl (lv_at hl 0 rfl) ?_
      refine x_get C Z 0 rfl rfl i_X6_X6_group (k := 3) (by decide) (List.mem_of_getElem? (i := 1) rfl) rfl dX6_group_79 ?_
      refine lv_iload_n C.1 C.2.1 dX6_group_82 rfl (lv_at hl 1 rfl) ?_
      obtain ⟨r27, hr27, h28⟩ := bd_some h25
      clear h25
      refine x_callV_i_P (As := [.int (iI v1)]) (rest := []) (q0 := 0) (X2 := (wF g aF (aH 0) (aP 0) (aT 0) (aC 0) (aB 0) (aQ 0) (aU 0) (aV 0) (aS 0) (aR 0) sF ++ (wH g aH sH ++ (wP g aP sP ++ (wT g aT r1.1 ++ (wC g aC (aK 0) rr r1.2.1 ++ (wS g aK r1.2.2 ++ (wB g aB sB ++ (wT g aQ sQ ++ (wT g aU sU ++ (wT g aV sV ++ (wS g aS sS ++ wS g aR sR)))))))))))) C Z fr_FHPTCKBQUVSR_4_5 (k_X1_endsIn l g n aC aK rr r1.2.1 r1.2.2 v1 r27 hr27) gX6_group_X1_endsIn yk_X1_endsIn ⟨Nat.le_of_ble_eq_true rfl, Nat.le_of_ble_eq_true rfl⟩ rfl rfl ⟨Nat.zero_le _, Nat.zero_le _⟩ hl.1 rfl (Nat.le_of_ble_eq_true rfl) rfl dX6_group_83 (fun H locs Z => ?_)
      have h29 := Option.some.inj h28
      subst h29
      exact hRet _ _ _ _ Z dX6_group_86
    have h26 := if_n h20 c24
    clear h20
    by_cases c30 : v2 = 3
    · have h31 := if_p h26 c30
      clear h26
      refine x_tin (tgt := 87) C dX6_group_18 q10 c30 (by decide) (by decide) (by rfl) (by decide) ?_
      refine lv_aload_n C.1 C.2.1 dX6_group_87 rfl (lv_at hl 0 rfl) ?_
      refine x_get C Z 0 rfl rfl i_X6_X6_group (k := 3) (by decide) (List.mem_of_getElem? (i := 1) rfl) rfl dX6_group_88 ?_
      refine lv_iload_n C.1 C.2.1 dX6_group_91 rfl (lv_at hl 1 rfl) ?_
      obtain ⟨r33, hr33, h34⟩ := bd_some h31
      clear h31
      refine x_callV_i_P (As := [.int (iI v1)]) (rest := []) (q0 := 0) (X2 := (wF g aF (aH 0) (aP 0) (aT 0) (aC 0) (aB 0) (aQ 0) (aU 0) (aV 0) (aS 0) (aR 0) sF ++ (wH g aH sH ++ (wP g aP sP ++ (wT g aT r1.1 ++ (wC g aC (aK 0) rr r1.2.1 ++ (wS g aK r1.2.2 ++ (wB g aB sB ++ (wT g aQ sQ ++ (wT g aU sU ++ (wT g aV sV ++ (wS g aS sS ++ wS g aR sR)))))))))))) C Z fr_FHPTCKBQUVSR_4_5 (k_X1_linkOf l g n aC aK rr r1.2.1 r1.2.2 v1 r33 hr33) gX6_group_X1_linkOf yk_X1_linkOf ⟨Nat.le_of_ble_eq_true rfl, Nat.le_of_ble_eq_true rfl⟩ rfl rfl ⟨Nat.zero_le _, Nat.zero_le _⟩ hl.1 rfl (Nat.le_of_ble_eq_true rfl) rfl dX6_group_92 (fun H locs Z => ?_)
      have h35 := Option.some.inj h34
      subst h35
      exact hRet _ _ _ _ Z dX6_group_95
    have h32 := if_n h26 c30
    clear h26
    by_cases c36 : v2 = 4
    · have h37 := if_p h32 c36
      clear h32
      refine x_tin (tgt := 96) C dX6_group_18 q10 c36 (by decide) (by decide) (by rfl) (by decide) ?_
      refine lv_aload_n C.1 C.2.1 dX6_group_96 rfl (lv_at hl 0 rfl) ?_
      refine x_get C Z 0 rfl rfl i_X6_X6_group (k := 3) (by decide) (List.mem_of_getElem? (i := 1) rfl) rfl dX6_group_97 ?_
      refine lv_iload_n C.1 C.2.1 dX6_group_100 rfl (lv_at hl 1 rfl) ?_
      obtain ⟨r39, hr39, h40⟩ := bd_some h37
      clear h37
      refine x_callV_i_P (As := [.int (iI v1)]) (rest := []) (q0 := 0) (X2 := (wF g aF (aH 0) (aP 0) (aT 0) (aC 0) (aB 0) (aQ 0) (aU 0) (aV 0) (aS 0) (aR 0) sF ++ (wH g aH sH ++ (wP g aP sP ++ (wT g aT r1.1 ++ (wC g aC (aK 0) rr r1.2.1 ++ (wS g aK r1.2.2 ++ (wB g aB sB ++ (wT g aQ sQ ++ (wT g aU sU ++ (wT g aV sV ++ (wS g aS sS ++ wS g aR sR)))))))))))) C Z fr_FHPTCKBQUVSR_4_5 (k_X1_stepsOf l g n aC aK rr r1.2.1 r1.2.2 v1 r39 hr39) gX6_group_X1_stepsOf yk_X1_stepsOf ⟨Nat.le_of_ble_eq_true rfl, Nat.le_of_ble_eq_true rfl⟩ rfl rfl ⟨Nat.zero_le _, Nat.zero_le _⟩ hl.1 rfl (Nat.le_of_ble_eq_true rfl) rfl dX6_group_101 (fun H locs Z => ?_)
      have h41 := Option.some.inj h40
      subst h41
      exact hRet _ _ _ _ Z dX6_group_104
    have h38 := if_n h32 c36
    clear h32
    by_cases c42 : v2 = 5
    · have h43 := if_p h38 c42
      clear h38
      refine x_tin (tgt := 105) C dX6_group_18 q10 c42 (by decide) (by decide) (by rfl) (by decide) ?_
      refine lv_aload_n C.1 C.2.1 dX6_group_105 rfl (lv_at hl 0 rfl) ?_
      refine x_get C Z 0 rfl rfl i_X6_X6_group (k := 3) (by decide) (List.mem_of_getElem? (i := 1) rfl) rfl dX6_group_106 ?_
      refine lv_iload_n C.1 C.2.1 dX6_group_109 rfl (lv_at hl 1 rfl) ?_
      obtain ⟨r45, hr45, h46⟩ := bd_some h43
      clear h43
      refine x_callV_i_P (As := [.int (iI v1)]) (rest := []) (q0 := 0) (X2 := (wF g aF (aH 0) (aP 0) (aT 0) (aC 0) (aB 0) (aQ 0) (aU 0) (aV 0) (aS 0) (aR 0) sF ++ (wH g aH sH ++ (wP g aP sP ++ (wT g aT r1.1 ++ (wC g aC (aK 0) rr r1.2.1 ++ (wS g aK r1.2.2 ++ (wB g aB sB ++ (wT g aQ sQ ++ (wT g aU sU ++ (wT g aV sV ++ (wS g aS sS ++ wS g aR sR)))))))))))) C Z fr_FHPTCKBQUVSR_4_5 (k_X1_wordsOf l g n aC aK rr r1.2.1 r1.2.2 v1 r45 hr45) gX6_group_X1_wordsOf yk_X1_wordsOf ⟨Nat.le_of_ble_eq_true rfl, Nat.le_of_ble_eq_true rfl⟩ rfl rfl ⟨Nat.zero_le _, Nat.zero_le _⟩ hl.1 rfl (Nat.le_of_ble_eq_true rfl) rfl dX6_group_110 (fun H locs Z => ?_)
      have h47 := Option.some.inj h46
      subst h47
      exact hRet _ _ _ _ Z dX6_group_113
    have h44 := if_n h38 c42
    clear h38
    by_cases c48 : v2 = 6
    · have h49 := if_p h44 c48
      clear h44
      refine x_tin (tgt := 114) C dX6_group_18 q10 c48 (by decide) (by decide) (by rfl) (by decide) ?_
      refine lv_aload_n C.1 C.2.1 dX6_group_114 rfl (lv_at hl 0 rfl) ?_
      refine x_get C Z 0 rfl rfl i_X6_X6_group (k := 2) (by decide) (List.mem_of_getElem? (i := 2) rfl) rfl dX6_group_115 ?_
      refine lv_aload_n C.1 C.2.1 dX6_group_118 rfl (lv_at hl 0 rfl) ?_
      refine x_get C Z 0 rfl rfl i_X6_X6_group (k := 3) (by decide) (List.mem_of_getElem? (i := 1) rfl) rfl dX6_group_119 ?_
      refine lv_iload_n C.1 C.2.1 dX6_group_122 rfl (lv_at hl 1 rfl) ?_
      obtain ⟨r51, hr51, h52⟩ := bd_some h49
      clear h49
      refine x_callV_i_P (As := [.int (iI v1)]) (rest := [.ref (aT 0)]) (q0 := 0) (X2 := (wF g aF (aH 0) (aP 0) (aT 0) (aC 0) (aB 0) (aQ 0) (aU 0) (aV 0) (aS 0) (aR 0) sF ++ (wH g aH sH ++ (wP g aP sP ++ (wT g aT r1.1 ++ (wC g aC (aK 0) rr r1.2.1 ++ (wS g aK r1.2.2 ++ (wB g aB sB ++ (wT g aQ sQ ++ (wT g aU sU ++ (wT g aV sV ++ (wS g aS sS ++ wS g aR sR)))))))))))) C Z fr_FHPTCKBQUVSR_4_5 (k_X1_firstEndOf l g n aC aK rr r1.2.1 r1.2.2 v1 r51 hr51) gX6_group_X1_firstEndOf yk_X1_firstEndOf ⟨Nat.le_of_ble_eq_true rfl, Nat.le_of_ble_eq_true rfl⟩ rfl rfl ⟨Nat.zero_le _, Nat.zero_le _⟩ hl.1 rfl (Nat.le_of_ble_eq_true rfl) rfl dX6_group_123 (fun H locs Z => ?_)
      obtain ⟨r53, hr53, h54⟩ := bd_some h52
      clear h52
      refine x_callV_i_Q (As := [.int (iI r51)]) (rest := []) (q0 := 0) (X2 := (wF g aF (aH 0) (aP 0) (aT 0) (aC 0) (aB 0) (aQ 0) (aU 0) (aV 0) (aS 0) (aR 0) sF ++ (wH g aH sH ++ (wP g aP sP ++ (wT g aT r1.1 ++ (wC g aC (aK 0) rr r1.2.1 ++ (wS g aK r1.2.2 ++ (wB g aB sB ++ (wT g aQ sQ ++ (wT g aU sU ++ (wT g aV sV ++ (wS g aS sS ++ wS g aR sR)))))))))))) C Z fr_FHPTCKBQUVSR_3 (k_X5_placeCode l g n aT r1.1 r51 r53 hr53) gX6_group_X5_placeCode yk_X5_placeCode ⟨Nat.le_of_ble_eq_true rfl, Nat.le_of_ble_eq_true rfl⟩ rfl rfl ⟨Nat.zero_le _, Nat.zero_le _⟩ hl.1 rfl (Nat.le_of_ble_eq_true rfl) rfl dX6_group_126 (fun H locs Z => ?_)
      have h55 := Option.some.inj h54
      subst h55
      exact hRet _ _ _ _ Z dX6_group_129
    have h50 := if_n h44 c48
    clear h44
    refine x_tout (tgt := 130) C dX6_group_18 q10 (by omega) (by decide) ?_
    refine x_bipush C dX6_group_130 (by decide) ?_
    have h56 := Option.some.inj h50
    subst h56
    exact hRet _ _ _ _ Z dX6_group_132
  · have h9 := if_p h6 c7
    clear h6
    refine x_iconst C dX6_group_15 ?_
    have h57 := Option.some.inj h9
    subst h57
    exact hRet _ _ _ _ Z dX6_group_16
abbrev rmX1_longestStart : Room := { frames := 2, cells := 0, slots := 0, locals := 42 }
theorem yk_X1_longestStart : xY yX1_longestStart RX1 cX1_longestStart 2 (some .int) wsX1_longestStart rmX1_longestStart 1 := ⟨⟨_, rfl⟩, by decide +kernel, rfl, rfl⟩
theorem i_X1_X1_longestStart : ∀ w ∈ u_ws RX1 TX1 13, w ∈ wsX1_longestStart := fun _ h => List.mem_cons_of_mem _ (List.mem_append_right _ h)
set_option maxHeartbeats 4000000 in
set_option maxRecDepth 100000 in
theorem k_X1_longestStart (l : Launch) (g : xG) (n : Nat) (aC : Nat → Nat) (aK : Nat → Nat) (rr : Nat → Nat) (sC : ClsS) (sK : SwpS) (v1 : Int) (r : Int) (hf : p_X1_longestStart sC v1 = some r) : xMi l yX1_longestStart wsX1_longestStart rmX1_longestStart g [.ref (aC 0), .int (iI v1)] ((wC g aC (aK 0) rr sC ++ wS g aK sK) ++ wR g rr sC.classOf) ((wC g aC (aK 0) rr sC ++ wS g aK sK) ++ wR g rr sC.classOf) r := by
  refine x_ofW_i (own := RX1) (by decide) rfl rfl (Nat.le_of_ble_eq_true rfl) ?_
  intro p e s m args below meth c ls A QQ C hRet Z hl
  have hl : lv_has ls 2 [(0, .ref (aC 0)), (1, .int (iI v1))] := hl
  unfold p_X1_longestStart at hf
  refine lv_aload_n C.1 C.2.1 dX1_longestStart_0 rfl (lv_at hl 0 rfl) ?_
  refine lv_iload_n C.1 C.2.1 dX1_longestStart_1 rfl (lv_at hl 1 rfl) ?_
  obtain ⟨r1, hr1, h2⟩ := bd_some hf
  clear hf
  refine x_callV_i_id (As := [.int (iI v1)]) (rest := []) (q0 := 0) C Z (k_X1_firstEndOf l g n aC aK rr sC sK v1 r1 hr1) gX1_longestStart_X1_firstEndOf yk_X1_firstEndOf ⟨Nat.le_of_ble_eq_true rfl, Nat.le_of_ble_eq_true rfl⟩ rfl rfl ⟨Nat.zero_le _, Nat.zero_le _⟩ hl.1 rfl (Nat.le_of_ble_eq_true rfl) rfl dX1_longestStart_2 (fun H locs Z => ?_)
  refine lv_aload_n C.1 C.2.1 dX1_longestStart_5 rfl (lv_at hl 0 rfl) ?_
  refine lv_iload_n C.1 C.2.1 dX1_longestStart_6 rfl (lv_at hl 1 rfl) ?_
  obtain ⟨r3, hr3, h4⟩ := bd_some h2
  clear h2
  refine x_callV_i_id (As := [.int (iI v1)]) (rest := [.int (iI r1)]) (q0 := 0) C Z (k_X1_longestIn l g n aC aK rr sC sK v1 r3 hr3) gX1_longestStart_X1_longestIn yk_X1_longestIn ⟨Nat.le_of_ble_eq_true rfl, Nat.le_of_ble_eq_true rfl⟩ rfl rfl ⟨Nat.zero_le _, Nat.zero_le _⟩ hl.1 rfl (Nat.le_of_ble_eq_true rfl) rfl dX1_longestStart_7 (fun H locs Z => ?_)
  refine x_isub C dX1_longestStart_10 ?_
  refine x_iconst C dX1_longestStart_11 ?_
  refine x_iadd C dX1_longestStart_12 ?_
  have h5 := Option.some.inj h4
  subst h5
  exact hRet _ _ _ _ Z dX1_longestStart_13
abbrev rmX6_spell : Room := { frames := 6, cells := 0, slots := 0, locals := 139 }
theorem yk_X6_spell : xY yX6_spell RX6 cX6_spell 2 (some .int) wsX6_spell rmX6_spell 1 := ⟨⟨_, rfl⟩, by decide +kernel, rfl, rfl⟩
theorem i_X1_X6_spell : ∀ w ∈ u_ws RX1 TX1 13, w ∈ wsX6_spell := fun _ h => List.mem_cons_of_mem _ (List.mem_append_left _ (List.mem_append_left _ (List.mem_append_right _ h)))
theorem i_X2_X6_spell : ∀ w ∈ u_ws RX2 TX2 5, w ∈ wsX6_spell := fun _ h => List.mem_cons_of_mem _ (List.mem_append_left _ (List.mem_append_left _ (List.mem_append_left _ (List.mem_append_right _ h))))
theorem i_X3_X6_spell : ∀ w ∈ u_ws RX3 TX3 2, w ∈ wsX6_spell := fun _ h => List.mem_cons_of_mem _ (List.mem_append_right _ h)
theorem i_X4_X6_spell : ∀ w ∈ u_ws RX4 TX4 1, w ∈ wsX6_spell := fun _ h => List.mem_cons_of_mem _ (List.mem_append_left _ (List.mem_append_right _ h))
theorem i_X5_X6_spell : ∀ w ∈ u_ws RX5 TX5 8, w ∈ wsX6_spell := fun _ h => List.mem_cons_of_mem _ (List.mem_append_left _ (List.mem_append_left _ (List.mem_append_left _ (List.mem_append_left _ (List.mem_append_right _ h)))))
theorem i_X6_X6_spell : ∀ w ∈ u_ws RX6 TX6 11, w ∈ wsX6_spell := fun _ h => List.mem_cons_of_mem _ (List.mem_append_left _ (List.mem_append_left _ (List.mem_append_left _ (List.mem_append_left _ (List.mem_append_left _ (List.mem_append_right _ h))))))
set_option maxHeartbeats 4000000 in
set_option maxRecDepth 100000 in
theorem k_X6_spell (l : Launch) (g : xG) (n : Nat) (aF : Nat → Nat) (aH : Nat → Nat) (aP : Nat → Nat) (aT : Nat → Nat) (aC : Nat → Nat) (aK : Nat → Nat) (aB : Nat → Nat) (aQ : Nat → Nat) (aU : Nat → Nat) (aV : Nat → Nat) (aS : Nat → Nat) (aR : Nat → Nat) (rr : Nat → Nat) (sF : Int) (sH : HisS) (sP : PadS) (sT : TxtS) (sC : ClsS) (sK : SwpS) (sB : BegS) (sQ : TxtS) (sU : TxtS) (sV : TxtS) (sS : SwpS) (sR : SwpS) (v1 : Int) (r : Int × PadS × TxtS × ClsS × SwpS) (hf : p_X6_spell n sF sH sP sT sC sK v1 = some r) : xMi l yX6_spell wsX6_spell rmX6_spell g [.ref (aF 0), .int (iI v1)] ((wF g aF (aH 0) (aP 0) (aT 0) (aC 0) (aB 0) (aQ 0) (aU 0) (aV 0) (aS 0) (aR 0) sF ++ (wH g aH sH ++ (wP g aP sP ++ (wT g aT sT ++ (wC g aC (aK 0) rr sC ++ (wS g aK sK ++ (wB g aB sB ++ (wT g aQ sQ ++ (wT g aU sU ++ (wT g aV sV ++ (wS g aS sS ++ wS g aR sR))))))))))) ++ wR g rr sC.classOf) ((wF g aF (aH 0) (aP 0) (aT 0) (aC 0) (aB 0) (aQ 0) (aU 0) (aV 0) (aS 0) (aR 0) sF ++ (wH g aH sH ++ (wP g aP r.2.1 ++ (wT g aT r.2.2.1 ++ (wC g aC (aK 0) rr r.2.2.2.1 ++ (wS g aK r.2.2.2.2 ++ (wB g aB sB ++ (wT g aQ sQ ++ (wT g aU sU ++ (wT g aV sV ++ (wS g aS sS ++ wS g aR sR))))))))))) ++ wR g rr r.2.2.2.1.classOf) r.1 := by
  refine x_ofW_i (own := RX6) (by decide) rfl rfl (Nat.le_of_ble_eq_true rfl) ?_
  intro p e s m args below meth c ls A QQ C hRet Z hl
  have hl : lv_has ls 2 [(0, .ref (aF 0)), (1, .int (iI v1))] := hl
  unfold p_X6_spell at hf
  refine lv_aload_n C.1 C.2.1 dX6_spell_0 rfl (lv_at hl 0 rfl) ?_
  obtain ⟨r1, hr1, h2⟩ := bd_some hf
  clear hf
  refine x_callV_v_id (As := []) (rest := []) (q0 := 0) C Z (k_X6_showClasses l g n aF aH aP aT aC aK aB aQ aU aV aS aR rr sF sH sP sT sC sK sB sQ sU sV sS sR r1 hr1) gX6_spell_X6_showClasses yk_X6_showClasses ⟨Nat.le_of_ble_eq_true rfl, Nat.le_of_ble_eq_true rfl⟩ rfl rfl ⟨Nat.zero_le _, Nat.zero_le _⟩ hl.1 rfl (Nat.le_of_ble_eq_true rfl) rfl dX6_spell_1 (fun H locs Z => ?_)
  refine lv_aload_n C.1 C.2.1 dX6_spell_4 rfl (lv_at hl 0 rfl) ?_
  refine x_get C Z 0 rfl rfl i_X6_X6_spell (k := 3) (by decide) (List.mem_of_getElem? (i := 1) rfl) rfl dX6_spell_5 ?_
  refine lv_iload_n C.1 C.2.1 dX6_spell_8 rfl (lv_at hl 1 rfl) ?_
  obtain ⟨r3, hr3, h4⟩ := bd_some h2
  clear h2
  refine x_callV_i_P (As := [.int (iI v1)]) (rest := []) (q0 := 0) (X2 := (wF g aF (aH 0) (aP 0) (aT 0) (aC 0) (aB 0) (aQ 0) (aU 0) (aV 0) (aS 0) (aR 0) sF ++ (wH g aH sH ++ (wP g aP sP ++ (wT g aT r1.1 ++ (wC g aC (aK 0) rr r1.2.1 ++ (wS g aK r1.2.2 ++ (wB g aB sB ++ (wT g aQ sQ ++ (wT g aU sU ++ (wT g aV sV ++ (wS g aS sS ++ wS g aR sR)))))))))))) C Z fr_FHPTCKBQUVSR_4_5 (k_X1_has l g n aC aK rr r1.2.1 r1.2.2 v1 r3 hr3) gX6_spell_X1_has yk_X1_has ⟨Nat.le_of_ble_eq_true rfl, Nat.le_of_ble_eq_true rfl⟩ rfl rfl ⟨Nat.zero_le _, Nat.zero_le _⟩ hl.1 rfl (Nat.le_of_ble_eq_true rfl) rfl dX6_spell_9 (fun H locs Z => ?_)
  have q5 := (ck_some h4).1
  have h6 := (ck_some h4).2
  clear h4
  refine x_if_ne (tgt := 17) C dX6_spell_12 (by decide) q5 (fun c7 => ?_) (fun c7 => ?_)
  · have h8 := if_n h6 c7
    clear h6
    refine lv_aload_n C.1 C.2.1 dX6_spell_17 rfl (lv_at hl 0 rfl) ?_
    refine lv_aload_n C.1 C.2.1 dX6_spell_18 rfl (lv_at hl 0 rfl) ?_
    refine x_get C Z 0 rfl rfl i_X6_X6_spell (k := 3) (by decide) (List.mem_of_getElem? (i := 1) rfl) rfl dX6_spell_19 ?_
    refine lv_iload_n C.1 C.2.1 dX6_spell_22 rfl (lv_at hl 1 rfl) ?_
    obtain ⟨r10, hr10, h11⟩ := bd_some h8
    clear h8
    refine x_callV_i_P (As := [.int (iI v1)]) (rest := [.ref (aF 0)]) (q0 := 0) (X2 := (wF g aF (aH 0) (aP 0) (aT 0) (aC 0) (aB 0) (aQ 0) (aU 0) (aV 0) (aS 0) (aR 0) sF ++ (wH g aH sH ++ (wP g aP sP ++ (wT g aT r1.1 ++ (wC g aC (aK 0) rr r1.2.1 ++ (wS g aK r1.2.2 ++ (wB g aB sB ++ (wT g aQ sQ ++ (wT g aU sU ++ (wT g aV sV ++ (wS g aS sS ++ wS g aR sR)))))))))))) C Z fr_FHPTCKBQUVSR_4_5 (k_X1_longestStart l g n aC aK rr r1.2.1 r1.2.2 v1 r10 hr10) gX6_spell_X1_longestStart yk_X1_longestStart ⟨Nat.le_of_ble_eq_true rfl, Nat.le_of_ble_eq_true rfl⟩ rfl rfl ⟨Nat.zero_le _, Nat.zero_le _⟩ hl.1 rfl (Nat.le_of_ble_eq_true rfl) rfl dX6_spell_23 (fun H locs Z => ?_)
    refine lv_aload_n C.1 C.2.1 dX6_spell_26 rfl (lv_at hl 0 rfl) ?_
    refine x_get C Z 0 rfl rfl i_X6_X6_spell (k := 3) (by decide) (List.mem_of_getElem? (i := 1) rfl) rfl dX6_spell_27 ?_
    refine lv_iload_n C.1 C.2.1 dX6_spell_30 rfl (lv_at hl 1 rfl) ?_
    obtain ⟨r12, hr12, h13⟩ := bd_some h11
    clear h11
    refine x_callV_i_P (As := [.int (iI v1)]) (rest := [.int (iI r10), .ref (aF 0)]) (q0 := 0) (X2 := (wF g aF (aH 0) (aP 0) (aT 0) (aC 0) (aB 0) (aQ 0) (aU 0) (aV 0) (aS 0) (aR 0) sF ++ (wH g aH sH ++ (wP g aP sP ++ (wT g aT r1.1 ++ (wC g aC (aK 0) rr r1.2.1 ++ (wS g aK r1.2.2 ++ (wB g aB sB ++ (wT g aQ sQ ++ (wT g aU sU ++ (wT g aV sV ++ (wS g aS sS ++ wS g aR sR)))))))))))) C Z fr_FHPTCKBQUVSR_4_5 (k_X1_longestIn l g n aC aK rr r1.2.1 r1.2.2 v1 r12 hr12) gX6_spell_X1_longestIn yk_X1_longestIn ⟨Nat.le_of_ble_eq_true rfl, Nat.le_of_ble_eq_true rfl⟩ rfl rfl ⟨Nat.zero_le _, Nat.zero_le _⟩ hl.1 rfl (Nat.le_of_ble_eq_true rfl) rfl dX6_spell_31 (fun H locs Z => ?_)
    obtain ⟨r14, hr14, h15⟩ := bd_some h13
    clear h13
    refine x_callV_i_id (As := [.int (iI r10), .int (iI r12)]) (rest := []) (q0 := 0) C Z (k_X6_write l g n aF aH aP aT aC aK aB aQ aU aV aS aR rr sF sH sP r1.1 r1.2.1 r1.2.2 sB sQ sU sV sS sR r10 r12 r14 hr14) gX6_spell_X6_write yk_X6_write ⟨Nat.le_of_ble_eq_true rfl, Nat.le_of_ble_eq_true rfl⟩ rfl rfl ⟨Nat.zero_le _, Nat.zero_le _⟩ hl.1 rfl (Nat.le_of_ble_eq_true rfl) rfl dX6_spell_34 (fun H locs Z => ?_)
    have h16 := Option.some.inj h15
    subst h16
    exact hRet _ _ _ _ Z dX6_spell_37
  · have h9 := if_p h6 c7
    clear h6
    refine x_iconst C dX6_spell_15 ?_
    have h17 := Option.some.inj h9
    subst h17
    exact hRet _ _ _ _ Z dX6_spell_16
abbrev rmX5_sameBefore : Room := { frames := 2, cells := 0, slots := 0, locals := 42 }
theorem yk_X5_sameBefore : xY yX5_sameBefore RX5 cX5_sameBefore 5 (some .boolean) wsX5_sameBefore rmX5_sameBefore 3 := ⟨⟨_, rfl⟩, by decide +kernel, rfl, rfl⟩
theorem i_X5_X5_sameBefore : ∀ w ∈ u_ws RX5 TX5 8, w ∈ wsX5_sameBefore := fun _ h => List.mem_cons_of_mem _ (List.mem_append_right _ h)
set_option maxHeartbeats 4000000 in
set_option maxRecDepth 100000 in
theorem k_X5_sameBefore (l : Launch) (g : xG) (n : Nat) (aT : Nat → Nat) (sT : TxtS) (v1 : Int) (v2 : Int) (v3 : Int) (r : Int) (hf : p_X5_sameBefore n sT v1 v2 v3 = some r) : xMi l yX5_sameBefore wsX5_sameBefore rmX5_sameBefore g [.ref (aT 0), .int (iI v1), .int (iI v2), .int (iI v3)] (wT g aT sT) (wT g aT sT) r := by
  refine x_ofW_z (own := RX5) (by decide) rfl rfl (Nat.le_of_ble_eq_true rfl) ?_
  intro p e s m args below meth c ls A QQ C hRet Z hl
  have hl : lv_has ls 5 [(0, .ref (aT 0)), (1, .int (iI v1)), (2, .int (iI v2)), (3, .int (iI v3))] := hl
  unfold p_X5_sameBefore at hf
  refine x_iconst C dX5_sameBefore_0 ?_
  refine lv_istore (lv' := [(4, .int (iI 1)), (0, .ref (aT 0)), (1, .int (iI v1)), (2, .int (iI v2)), (3, .int (iI v3))]) C.1 C.2.1 dX5_sameBefore_1 hl (by decide) rfl (fun ls hl => ?_)
  obtain ⟨ex3, hl3, h43⟩ := bd_some hf
  clear hf
  have hK3 : ∀ (e3 : Unit) (H : Heap) (locs : List Loc) (ls : Array Slot), ex3 = .inr e3 → xSt g A s (wT g aT sT) H locs → lv_has ls 5 [] → W p l e rmX5_sameBefore s m args below meth c H locs 0 0 QQ (F0 m 36 ls []) := by
    intro e3 H locs ls he Z hl
    subst he
    have h44 := (Sum.elim_inr ..).symm.trans h43
    clear h43
    refine x_iconst C dX5_sameBefore_36 ?_
    have h45 := Option.some.inj h44
    subst h45
    exact hRet _ _ _ _ (x_bool (Or.inr rfl)) Z dX5_sameBefore_37
  have hL3 : ∀ (k3 : Nat) (z3 : Int) (H : Heap) (locs : List Loc) (ls : Array Slot), lp (p_X5_sameBefore_b3 n sT v1 v2 v3) k3 z3 = some ex3 → xSt g A s (wT g aT sT) H locs → lv_has ls 5 [(0, .ref (aT 0)), (1, .int (iI v1)), (2, .int (iI v2)), (3, .int (iI v3)), (4, .int (iI z3))] → W p l e rmX5_sameBefore s m args below meth c H locs 0 0 QQ (F0 m 3 ls []) := by
    intro k3
    induction k3 with
    | zero => intro z3 H locs ls h; exact (lp_0 h).elim
    | succ k3 ih3 =>
      intro z3 H locs ls h Z hl
      obtain ⟨x3, hb3, hx3⟩ := lp_s h
      clear h
      unfold p_X5_sameBefore_b3 at hb3
      refine lv_iload C.1 C.2.1 dX5_sameBefore_3 (lv_at hl 4 rfl) ?_
      refine lv_iload_n C.1 C.2.1 dX5_sameBefore_5 rfl (lv_at hl 3 rfl) ?_
      have q22 := (ck_some hb3).1
      have h23 := (ck_some hb3).2
      clear hb3
      have q24 := (ck_some h23).1
      have h25 := (ck_some h23).2
      clear h23
      refine x_icmp_gt (tgt := 36) C dX5_sameBefore_6 (by decide) q22 q24 (fun c26 => ?_) (fun c26 => ?_)
      · have h27 := if_p h25 c26
        clear h25
        cases h27
        exact hK3 () _ _ _ (lp_R hx3).symm Z (lv_sub hl [] rfl)
      · have h28 := if_n h25 c26
        clear h25
        refine lv_aload_n C.1 C.2.1 dX5_sameBefore_9 rfl (lv_at hl 0 rfl) ?_
        refine lv_iload_n C.1 C.2.1 dX5_sameBefore_10 rfl (lv_at hl 1 rfl) ?_
        refine lv_iload C.1 C.2.1 dX5_sameBefore_11 (lv_at hl 4 rfl) ?_
        refine x_isub C dX5_sameBefore_13 ?_
        obtain ⟨r29, hr29, h30⟩ := bd_some h28
        clear h28
        refine x_callV_i_id (As := [.int (iI (v1 - z3))]) (rest := []) (q0 := 0) C Z (k_X5_letterAt l g n aT sT (v1 - z3) r29 hr29) gX5_sameBefore_X5_letterAt yk_X5_letterAt ⟨Nat.le_of_ble_eq_true rfl, Nat.le_of_ble_eq_true rfl⟩ rfl rfl ⟨Nat.zero_le _, Nat.zero_le _⟩ hl.1 rfl (Nat.le_of_ble_eq_true rfl) rfl dX5_sameBefore_14 (fun H locs Z => ?_)
        refine lv_aload_n C.1 C.2.1 dX5_sameBefore_17 rfl (lv_at hl 0 rfl) ?_
        refine lv_iload_n C.1 C.2.1 dX5_sameBefore_18 rfl (lv_at hl 2 rfl) ?_
        refine lv_iload C.1 C.2.1 dX5_sameBefore_19 (lv_at hl 4 rfl) ?_
        refine x_isub C dX5_sameBefore_21 ?_
        obtain ⟨r31, hr31, h32⟩ := bd_some h30
        clear h30
        refine x_callV_i_id (As := [.int (iI (v2 - z3))]) (rest := [.int (iI r29)]) (q0 := 0) C Z (k_X5_letterAt l g n aT sT (v2 - z3) r31 hr31) gX5_sameBefore_X5_letterAt yk_X5_letterAt ⟨Nat.le_of_ble_eq_true rfl, Nat.le_of_ble_eq_true rfl⟩ rfl rfl ⟨Nat.zero_le _, Nat.zero_le _⟩ hl.1 rfl (Nat.le_of_ble_eq_true rfl) rfl dX5_sameBefore_22 (fun H locs Z => ?_)
        have q33 := (ck_some h32).1
        have h34 := (ck_some h32).2
        clear h32
        have q35 := (ck_some h34).1
        have h36 := (ck_some h34).2
        clear h34
        refine x_icmp_eq (tgt := 30) C dX5_sameBefore_25 (by decide) q33 q35 (fun c37 => ?_) (fun c37 => ?_)
        · have h38 := if_p h36 c37
          clear h36
          refine x_iinc (lv' := [(4, .int (iI (z3 + 1))), (0, .ref (aT 0)), (1, .int (iI v1)), (2, .int (iI v2)), (3, .int (iI v3))]) C dX5_sameBefore_30 hl (k := 4) rfl (by decide) rfl (fun ls hl => ?_)
          refine lv_goto (tgt := 3) C.1 C.2.1 dX5_sameBefore_33 (by decide) ?_
          cases h38
          exact ih3 (z3 + 1) _ _ _ (lp_L2 hx3) Z (lv_sub hl [1, 2, 3, 4, 0] rfl)
        · have h39 := if_n h36 c37
          clear h36
          refine x_iconst C dX5_sameBefore_28 ?_
          cases h39
          have h40 := lp_R hx3
          subst h40
          have h41 := (Sum.elim_inl ..).symm.trans h43
          have h42 := Option.some.inj h41
          subst h42
          exact hRet _ _ _ _ (x_bool (Or.inl rfl)) Z dX5_sameBefore_29
  exact hL3 n 1 _ _ _ hl3 Z (lv_sub hl [1, 2, 3, 4, 0] rfl)
abbrev rmX1_classAfter : Room := { frames := 3, cells := 0, slots := 0, locals := 66 }
theorem yk_X1_classAfter : xY yX1_classAfter RX1 cX1_classAfter 8 (some .int) wsX1_classAfter rmX1_classAfter 3 := ⟨⟨_, rfl⟩, by decide +kernel, rfl, rfl⟩
theorem i_X1_X1_classAfter : ∀ w ∈ u_ws RX1 TX1 13, w ∈ wsX1_classAfter := fun _ h => List.mem_cons_of_mem _ (List.mem_append_left _ (List.mem_append_right _ h))
theorem i_X5_X1_classAfter : ∀ w ∈ u_ws RX5 TX5 8, w ∈ wsX1_classAfter := fun _ h => List.mem_cons_of_mem _ (List.mem_append_right _ h)
set_option maxHeartbeats 4000000 in
set_option maxRecDepth 100000 in
theorem k_X1_classAfter (l : Launch) (g : xG) (n : Nat) (aC : Nat → Nat) (aK : Nat → Nat) (aT : Nat → Nat) (rr : Nat → Nat) (sC : ClsS) (sK : SwpS) (sT : TxtS) (v2 : Int) (v3 : Int) (r : Int) (hf : p_X1_classAfter n sC sT v2 v3 = some r) : xMi l yX1_classAfter wsX1_classAfter rmX1_classAfter g [.ref (aC 0), .ref (aT 0), .int (iI v2), .int (iI v3)] ((wC g aC (aK 0) rr sC ++ (wS g aK sK ++ wT g aT sT)) ++ wR g rr sC.classOf) ((wC g aC (aK 0) rr sC ++ (wS g aK sK ++ wT g aT sT)) ++ wR g rr sC.classOf) r := by
  refine x_ofW_i (own := RX1) (by decide) rfl rfl (Nat.le_of_ble_eq_true rfl) ?_
  intro p e s m args below meth c ls A QQ C hRet Z hl
  have hl : lv_has ls 8 [(0, .ref (aC 0)), (1, .ref (aT 0)), (2, .int (iI v2)), (3, .int (iI v3))] := hl
  unfold p_X1_classAfter at hf
  refine lv_aload_n C.1 C.2.1 dX1_classAfter_0 rfl (lv_at hl 0 rfl) ?_
  refine lv_iload_n C.1 C.2.1 dX1_classAfter_1 rfl (lv_at hl 2 rfl) ?_
  obtain ⟨r1, hr1, h2⟩ := bd_some hf
  clear hf
  refine x_callV_i_P (As := [.int (iI v2)]) (rest := []) (q0 := 0) (X2 := (wC g aC (aK 0) rr sC ++ (wS g aK sK ++ wT g aT sT))) C Z fr_CKT_0_1 (k_X1_longestIn l g n aC aK rr sC sK v2 r1 hr1) gX1_classAfter_X1_longestIn yk_X1_longestIn ⟨Nat.le_of_ble_eq_true rfl, Nat.le_of_ble_eq_true rfl⟩ rfl rfl ⟨Nat.zero_le _, Nat.zero_le _⟩ hl.1 rfl (Nat.le_of_ble_eq_true rfl) rfl dX1_classAfter_2 (fun H locs Z => ?_)
  refine lv_istore (lv' := [(4, .int (iI r1)), (0, .ref (aC 0)), (1, .ref (aT 0)), (2, .int (iI v2)), (3, .int (iI v3))]) C.1 C.2.1 dX1_classAfter_5 hl (by decide) rfl (fun ls hl => ?_)
  refine lv_aload_n C.1 C.2.1 dX1_classAfter_7 rfl (lv_at hl 1 rfl) ?_
  refine lv_iload_n C.1 C.2.1 dX1_classAfter_8 rfl (lv_at hl 3 rfl) ?_
  obtain ⟨r3, hr3, h4⟩ := bd_some h2
  clear h2
  refine x_callV_i_P (As := [.int (iI v2)]) (rest := []) (q0 := 0) (X2 := (wC g aC (aK 0) rr sC ++ (wS g aK sK ++ wT g aT sT))) C Z fr_CKT_0_1 (k_X1_firstEndOf l g n aC aK rr sC sK v2 r3 hr3) gX1_classAfter_X1_firstEndOf yk_X1_firstEndOf ⟨Nat.le_of_ble_eq_true rfl, Nat.le_of_ble_eq_true rfl⟩ rfl rfl ⟨Nat.zero_le _, Nat.zero_le _⟩ hl.1 rfl (Nat.le_of_ble_eq_true rfl) rfl dX1_classAfter_9 (fun H locs Z => ?_)
  refine x_iconst C dX1_classAfter_12 ?_
  refine x_iadd C dX1_classAfter_13 ?_
  refine lv_istore (lv' := [(5, .int (iI (r3 + 1))), (4, .int (iI r1)), (0, .ref (aC 0)), (1, .ref (aT 0)), (2, .int (iI v2)), (3, .int (iI v3))]) C.1 C.2.1 dX1_classAfter_14 hl (by decide) rfl (fun ls hl => ?_)
  refine x_iconst C dX1_classAfter_16 ?_
  refine lv_istore (lv' := [(6, .int (iI 0)), (5, .int (iI (r3 + 1))), (4, .int (iI r1)), (0, .ref (aC 0)), (1, .ref (aT 0)), (2, .int (iI v2)), (3, .int (iI v3))]) C.1 C.2.1 dX1_classAfter_17 hl (by decide) rfl (fun ls hl => ?_)
  obtain ⟨ex19, hl19, h95⟩ := bd_some h4
  clear h4
  have hK19 : ∀ (e19 : Unit) (H : Heap) (locs : List Loc) (ls : Array Slot), ex19 = .inr e19 → xSt g A s ((wC g aC (aK 0) rr sC ++ (wS g aK sK ++ wT g aT sT)) ++ wR g rr sC.classOf) H locs → lv_has ls 8 [] → W p l e rmX1_classAfter s m args below meth c H locs 0 0 QQ (F0 m 91 ls []) := by
    intro e19 H locs ls he Z hl
    subst he
    have h96 := (Sum.elim_inr ..).symm.trans h95
    clear h95
    refine x_bipush C dX1_classAfter_91 (by decide) ?_
    have h97 := Option.some.inj h96
    subst h97
    exact hRet _ _ _ _ Z dX1_classAfter_93
  have hL19 : ∀ (k19 : Nat) (z19 : Int) (H : Heap) (locs : List Loc) (ls : Array Slot), lp (p_X1_classAfter_b19 n sC sT v3 r1 (r3 + 1)) k19 z19 = some ex19 → xSt g A s ((wC g aC (aK 0) rr sC ++ (wS g aK sK ++ wT g aT sT)) ++ wR g rr sC.classOf) H locs → lv_has ls 8 [(0, .ref (aC 0)), (1, .ref (aT 0)), (3, .int (iI v3)), (4, .int (iI r1)), (5, .int (iI (r3 + 1))), (6, .int (iI z19))] → W p l e rmX1_classAfter s m args below meth c H locs 0 0 QQ (F0 m 19 ls []) := by
    intro k19
    induction k19 with
    | zero => intro z19 H locs ls h; exact (lp_0 h).elim
    | succ k19 ih19 =>
      intro z19 H locs ls h Z hl
      obtain ⟨x19, hb19, hx19⟩ := lp_s h
      clear h
      unfold p_X1_classAfter_b19 at hb19
      have hJ54 : ∀ (v6_54 : Int) (t0_54 : Int) (H : Heap) (locs : List Loc) (ls : Array Slot), p_X1_classAfter_j54 n sC sT r1 (r3 + 1) v6_54 t0_54 = some x19 → xSt g A s ((wC g aC (aK 0) rr sC ++ (wS g aK sK ++ wT g aT sT)) ++ wR g rr sC.classOf) H locs → lv_has ls 8 [(0, .ref (aC 0)), (1, .ref (aT 0)), (3, .int (iI v3)), (4, .int (iI r1)), (5, .int (iI (r3 + 1))), (6, .int (iI v6_54))] → W p l e rmX1_classAfter s m args below meth c H locs 0 0 QQ (F0 m 54 ls [.int (iI t0_54)]) := by
        intro v6_54 t0_54 H locs ls hj54 Z hl
        unfold p_X1_classAfter_j54 at hj54
        refine lv_istore (lv' := [(7, .int (iI t0_54)), (0, .ref (aC 0)), (1, .ref (aT 0)), (3, .int (iI v3)), (4, .int (iI r1)), (5, .int (iI (r3 + 1))), (6, .int (iI v6_54))]) C.1 C.2.1 dX1_classAfter_54 hl (by decide) rfl (fun ls hl => ?_)
        refine lv_iload C.1 C.2.1 dX1_classAfter_56 (lv_at hl 0 rfl) ?_
        have q51 := (ck_some hj54).1
        have h52 := (ck_some hj54).2
        clear hj54
        refine x_if_eq (tgt := 85) C dX1_classAfter_58 (by decide) q51 (fun c53 => ?_) (fun c53 => ?_)
        · have h54 := if_p h52 c53
          clear h52
          refine x_iinc (lv' := [(6, .int (iI (v6_54 + 1))), (7, .int (iI t0_54)), (0, .ref (aC 0)), (1, .ref (aT 0)), (3, .int (iI v3)), (4, .int (iI r1)), (5, .int (iI (r3 + 1)))]) C dX1_classAfter_85 hl (k := 6) rfl (by decide) rfl (fun ls hl => ?_)
          refine lv_goto (tgt := 19) C.1 C.2.1 dX1_classAfter_88 (by decide) ?_
          cases h54
          exact ih19 (v6_54 + 1) _ _ _ (lp_L2 hx19) Z (lv_sub hl [2, 3, 4, 5, 6, 0] rfl)
        · have h55 := if_n h52 c53
          clear h52
          refine lv_aload_n C.1 C.2.1 dX1_classAfter_61 rfl (lv_at hl 2 rfl) ?_
          refine lv_iload C.1 C.2.1 dX1_classAfter_62 (lv_at hl 6 rfl) ?_
          refine lv_iload C.1 C.2.1 dX1_classAfter_64 (lv_at hl 5 rfl) ?_
          refine lv_iload C.1 C.2.1 dX1_classAfter_66 (lv_at hl 4 rfl) ?_
          obtain ⟨r56, hr56, h57⟩ := bd_some h55
          clear h55
          refine x_callV_i_Q (As := [.int (iI v6_54), .int (iI (r3 + 1)), .int (iI r1)]) (rest := []) (q0 := 0) (X2 := (wC g aC (aK 0) rr sC ++ (wS g aK sK ++ wT g aT sT))) C Z fr_CKT_2 (k_X5_sameBefore l g n aT sT v6_54 (r3 + 1) r1 r56 hr56) gX1_classAfter_X5_sameBefore yk_X5_sameBefore ⟨Nat.le_of_ble_eq_true rfl, Nat.le_of_ble_eq_true rfl⟩ rfl rfl ⟨Nat.zero_le _, Nat.zero_le _⟩ hl.1 rfl (Nat.le_of_ble_eq_true rfl) rfl dX1_classAfter_68 (fun H locs Z => ?_)
          have q58 := (ck_some h57).1
          have h59 := (ck_some h57).2
          clear h57
          refine x_if_eq (tgt := 85) C dX1_classAfter_71 (by decide) q58 (fun c60 => ?_) (fun c60 => ?_)
          · have h61 := if_p h59 c60
            clear h59
            refine x_iinc (lv' := [(6, .int (iI (v6_54 + 1))), (7, .int (iI t0_54)), (0, .ref (aC 0)), (1, .ref (aT 0)), (3, .int (iI v3)), (4, .int (iI r1)), (5, .int (iI (r3 + 1)))]) C dX1_classAfter_85 hl (k := 6) rfl (by decide) rfl (fun ls hl => ?_)
            refine lv_goto (tgt := 19) C.1 C.2.1 dX1_classAfter_88 (by decide) ?_
            cases h61
            exact ih19 (v6_54 + 1) _ _ _ (lp_L2 hx19) Z (lv_sub hl [2, 3, 4, 5, 6, 0] rfl)
          · have h62 := if_n h59 c60
            clear h59
            refine lv_aload_n C.1 C.2.1 dX1_classAfter_74 rfl (lv_at hl 1 rfl) ?_
            refine lv_iload C.1 C.2.1 dX1_classAfter_75 (lv_at hl 6 rfl) ?_
            refine lv_iload C.1 C.2.1 dX1_classAfter_77 (lv_at hl 4 rfl) ?_
            refine x_iconst C dX1_classAfter_79 ?_
            refine x_iadd C dX1_classAfter_80 ?_
            obtain ⟨r63, hr63, h64⟩ := bd_some h62
            clear h62
            refine x_callV_i_P (As := [.int (iI v6_54), .int (iI (r1 + 1))]) (rest := []) (q0 := 0) (X2 := (wC g aC (aK 0) rr sC ++ (wS g aK sK ++ wT g aT sT))) C Z fr_CKT_0_1 (k_X1_classAt l g n aC aK rr sC sK v6_54 (r1 + 1) r63 hr63) gX1_classAfter_X1_classAt yk_X1_classAt ⟨Nat.le_of_ble_eq_true rfl, Nat.le_of_ble_eq_true rfl⟩ rfl rfl ⟨Nat.zero_le _, Nat.zero_le _⟩ hl.1 rfl (Nat.le_of_ble_eq_true rfl) rfl dX1_classAfter_81 (fun H locs Z => ?_)
            cases h64
            have h65 := lp_R hx19
            subst h65
            have h66 := (Sum.elim_inl ..).symm.trans h95
            have h67 := Option.some.inj h66
            subst h67
            exact hRet _ _ _ _ Z dX1_classAfter_84
      have hJ53 : ∀ (v6_53 : Int) (H : Heap) (locs : List Loc) (ls : Array Slot), p_X1_classAfter_j53 n sC sT r1 (r3 + 1) v6_53 = some x19 → xSt g A s ((wC g aC (aK 0) rr sC ++ (wS g aK sK ++ wT g aT sT)) ++ wR g rr sC.classOf) H locs → lv_has ls 8 [(0, .ref (aC 0)), (1, .ref (aT 0)), (3, .int (iI v3)), (4, .int (iI r1)), (5, .int (iI (r3 + 1))), (6, .int (iI v6_53))] → W p l e rmX1_classAfter s m args below meth c H locs 0 0 QQ (F0 m 53 ls []) := by
        intro v6_53 H locs ls hj53 Z hl
        unfold p_X1_classAfter_j53 at hj53
        refine x_iconst C dX1_classAfter_53 ?_
        exact hJ54 v6_53 0 _ _ _ hj53 Z (lv_sub hl [0, 1, 2, 3, 4, 5] rfl)
      refine lv_iload C.1 C.2.1 dX1_classAfter_19 (lv_at hl 5 rfl) ?_
      refine lv_aload_n C.1 C.2.1 dX1_classAfter_21 rfl (lv_at hl 1 rfl) ?_
      obtain ⟨r68, hr68, h69⟩ := bd_some hb19
      clear hb19
      refine x_callV_i_Q (As := []) (rest := [.int (iI z19)]) (q0 := 0) (X2 := (wC g aC (aK 0) rr sC ++ (wS g aK sK ++ wT g aT sT))) C Z fr_CKT_2 (k_X5_length l g n aT sT r68 hr68) gX1_classAfter_X5_length yk_X5_length ⟨Nat.le_of_ble_eq_true rfl, Nat.le_of_ble_eq_true rfl⟩ rfl rfl ⟨Nat.zero_le _, Nat.zero_le _⟩ hl.1 rfl (Nat.le_of_ble_eq_true rfl) rfl dX1_classAfter_22 (fun H locs Z => ?_)
      have q70 := (ck_some h69).1
      have h71 := (ck_some h69).2
      clear h69
      have q72 := (ck_some h71).1
      have h73 := (ck_some h71).2
      clear h71
      refine x_icmp_ge (tgt := 91) C dX1_classAfter_25 (by decide) q70 q72 (fun c74 => ?_) (fun c74 => ?_)
      · have h75 := if_n h73 c74
        clear h73
        cases h75
        exact hK19 () _ _ _ (lp_R hx19).symm Z (lv_sub hl [] rfl)
      · have h76 := if_p h73 c74
        clear h73
        refine lv_aload_n C.1 C.2.1 dX1_classAfter_28 rfl (lv_at hl 1 rfl) ?_
        refine lv_iload C.1 C.2.1 dX1_classAfter_29 (lv_at hl 5 rfl) ?_
        obtain ⟨r77, hr77, h78⟩ := bd_some h76
        clear h76
        refine x_callV_i_Q (As := [.int (iI z19)]) (rest := []) (q0 := 0) (X2 := (wC g aC (aK 0) rr sC ++ (wS g aK sK ++ wT g aT sT))) C Z fr_CKT_2 (k_X5_letterAt l g n aT sT z19 r77 hr77) gX1_classAfter_X5_letterAt yk_X5_letterAt ⟨Nat.le_of_ble_eq_true rfl, Nat.le_of_ble_eq_true rfl⟩ rfl rfl ⟨Nat.zero_le _, Nat.zero_le _⟩ hl.1 rfl (Nat.le_of_ble_eq_true rfl) rfl dX1_classAfter_31 (fun H locs Z => ?_)
        refine lv_iload_n C.1 C.2.1 dX1_classAfter_34 rfl (lv_at hl 2 rfl) ?_
        have q79 := (ck_some h78).1
        have h80 := (ck_some h78).2
        clear h78
        have q81 := (ck_some h80).1
        have h82 := (ck_some h80).2
        clear h80
        refine x_icmp_ne (tgt := 53) C dX1_classAfter_35 (by decide) q79 q81 (fun c83 => ?_) (fun c83 => ?_)
        · have h84 := if_n h82 c83
          clear h82
          exact hJ53 z19 _ _ _ h84 Z (lv_sub hl [0, 1, 2, 3, 4, 5] rfl)
        · have h85 := if_p h82 c83
          clear h82
          refine lv_aload_n C.1 C.2.1 dX1_classAfter_38 rfl (lv_at hl 1 rfl) ?_
          refine lv_iload C.1 C.2.1 dX1_classAfter_39 (lv_at hl 5 rfl) ?_
          obtain ⟨r86, hr86, h87⟩ := bd_some h85
          clear h85
          refine x_callV_i_Q (As := [.int (iI z19)]) (rest := []) (q0 := 0) (X2 := (wC g aC (aK 0) rr sC ++ (wS g aK sK ++ wT g aT sT))) C Z fr_CKT_2 (k_X5_placeAt l g n aT sT z19 r86 hr86) gX1_classAfter_X5_placeAt yk_X5_placeAt ⟨Nat.le_of_ble_eq_true rfl, Nat.le_of_ble_eq_true rfl⟩ rfl rfl ⟨Nat.zero_le _, Nat.zero_le _⟩ hl.1 rfl (Nat.le_of_ble_eq_true rfl) rfl dX1_classAfter_41 (fun H locs Z => ?_)
          refine lv_iload C.1 C.2.1 dX1_classAfter_44 (lv_at hl 3 rfl) ?_
          have q88 := (ck_some h87).1
          have h89 := (ck_some h87).2
          clear h87
          have q90 := (ck_some h89).1
          have h91 := (ck_some h89).2
          clear h89
          refine x_icmp_lt (tgt := 53) C dX1_classAfter_46 (by decide) q88 q90 (fun c92 => ?_) (fun c92 => ?_)
          · have h93 := if_p h91 c92
            clear h91
            exact hJ53 z19 _ _ _ h93 Z (lv_sub hl [0, 1, 2, 3, 4, 5] rfl)
          · have h94 := if_n h91 c92
            clear h91
            refine x_iconst C dX1_classAfter_49 ?_
            refine lv_goto (tgt := 54) C.1 C.2.1 dX1_classAfter_50 (by decide) ?_
            exact hJ54 z19 1 _ _ _ h94 Z (lv_sub hl [0, 1, 2, 3, 4, 5] rfl)
  exact hL19 n 0 _ _ _ hl19 Z (lv_sub hl [3, 4, 6, 2, 1, 0] rfl)
