abbrev rmX7_make : Room := { frames := 0, cells := 0, slots := 0, locals := 0 }
theorem yk_X7_make : xY yX7_make RX7 cX7_make 3 (some .int) wsX7_make rmX7_make 1 := ⟨⟨_, rfl⟩, by decide +kernel, rfl, rfl⟩
theorem i_X7_X7_make : ∀ w ∈ u_ws RX7 TX7 23, w ∈ wsX7_make := fun _ h => List.mem_cons_of_mem _ (List.mem_append_right _ h)
set_option maxHeartbeats 4000000 in
set_option maxRecDepth 100000 in
theorem k_X7_make (l : Launch) (g : xG) (n : Nat) (aM : Nat → Nat) (sMv : MvS) (sMp : MpS) (sMt : MtS) (sMs : MsS) (sMc : McS) (sMr : MrS) (v1 : Int) (r : Int × MvS) (hf : p_X7_make sMv v1 = some r) : xMi l yX7_make wsX7_make rmX7_make g [.ref (aM 0), .int (iI v1)] (wM g aM sMv sMp sMt sMs sMc sMr) (wM g aM r.2 sMp sMt sMs sMc sMr) r.1 := by
  refine x_ofW_i (own := RX7) (by decide) rfl rfl (Nat.le_of_ble_eq_true rfl) ?_
  intro p e s m args below meth c ls A QQ C hRet Z hl
  have hl : lv_has ls 3 [(0, .ref (aM 0)), (1, .int (iI v1))] := hl
  unfold p_X7_make at hf
  have hJ72 : ∀ (sMv_72 : MvS) (v2_72 : Int) (t1_72 : Int) (t2_72 : Int) (t3_72 : Int) (H : Heap) (locs : List Loc) (ls : Array Slot), p_X7_make_j72 sMv_72 v2_72 t1_72 t2_72 t3_72 = some r → xSt g A s (wM g aM sMv_72 sMp sMt sMs sMc sMr) H locs → lv_has ls 3 [(0, .ref (aM 0)), (2, .int (iI v2_72))] → W p l e rmX7_make s m args below meth c H locs 0 0 QQ (F0 m 72 ls [.int (iI t3_72), .int (iI t2_72), .int (iI t1_72), .ref (aM 4)]) := by
    intro sMv_72 v2_72 t1_72 t2_72 t3_72 H locs ls hj72 Z hl
    unfold p_X7_make_j72 at hj72
    refine x_iadd C dX7_make_72 ?_
    have q1 := (ix_some hj72).1
    have h2 := (ix_some hj72).2
    clear hj72
    refine x_iast (ws2 := wM g aM (sMv_72.parent, sMv_72.added, sMv_72.wordMany, up sMv_72.letterMany t1_72 (t2_72 + t3_72), sMv_72.versions, sMv_72.present) sMp sMt sMs sMc sMr) C Z 4 rfl (by decide) q1 dX7_make_73 rfl (fun H locs Z => ?_)
    refine lv_aload_n C.1 C.2.1 dX7_make_74 rfl (lv_at hl 0 rfl) ?_
    refine lv_dup C.1 C.2.1 dX7_make_75 rfl ?_
    refine x_get C Z 0 rfl rfl i_X7_X7_make (k := 4) (by decide) (List.mem_of_getElem? (i := 1) rfl) rfl dX7_make_76 ?_
    refine x_iconst C dX7_make_79 ?_
    refine x_iadd C dX7_make_80 ?_
    refine x_put (ws2 := wM g aM (sMv_72.parent, sMv_72.added, sMv_72.wordMany, up sMv_72.letterMany t1_72 (t2_72 + t3_72), sMv_72.versions + 1, sMv_72.present) sMp sMt sMs sMc sMr) C Z 0 rfl rfl i_X7_X7_make tyX7_ok nmX7 (k := 4) (by decide) (List.mem_of_getElem? (i := 1) rfl) rfl rfl (Nat.le_of_ble_eq_true rfl) dX7_make_81 rfl (fun H locs Z => ?_)
    refine lv_aload_n C.1 C.2.1 dX7_make_84 rfl (lv_at hl 0 rfl) ?_
    refine lv_iload_n C.1 C.2.1 dX7_make_85 rfl (lv_at hl 1 rfl) ?_
    refine x_put (ws2 := wM g aM (sMv_72.parent, sMv_72.added, sMv_72.wordMany, up sMv_72.letterMany t1_72 (t2_72 + t3_72), sMv_72.versions + 1, v2_72) sMp sMt sMs sMc sMr) C Z 0 rfl rfl i_X7_X7_make tyX7_ok nmX7 (k := 5) (by decide) (List.mem_of_getElem? (i := 3) rfl) rfl rfl (Nat.le_of_ble_eq_true rfl) dX7_make_86 rfl (fun H locs Z => ?_)
    refine lv_iload_n C.1 C.2.1 dX7_make_89 rfl (lv_at hl 1 rfl) ?_
    have h3 := Option.some.inj h2
    subst h3
    exact hRet _ _ _ _ Z dX7_make_90
  have hJ46 : ∀ (sMv_46 : MvS) (v1_46 : Int) (v2_46 : Int) (t1_46 : Int) (t2_46 : Int) (t3_46 : Int) (H : Heap) (locs : List Loc) (ls : Array Slot), p_X7_make_j46 sMv_46 v1_46 v2_46 t1_46 t2_46 t3_46 = some r → xSt g A s (wM g aM sMv_46 sMp sMt sMs sMc sMr) H locs → lv_has ls 3 [(0, .ref (aM 0)), (1, .int (iI v1_46)), (2, .int (iI v2_46))] → W p l e rmX7_make s m args below meth c H locs 0 0 QQ (F0 m 46 ls [.int (iI t3_46), .int (iI t2_46), .int (iI t1_46), .ref (aM 3)]) := by
    intro sMv_46 v1_46 v2_46 t1_46 t2_46 t3_46 H locs ls hj46 Z hl
    unfold p_X7_make_j46 at hj46
    refine x_iadd C dX7_make_46 ?_
    have q4 := (ix_some hj46).1
    have h5 := (ix_some hj46).2
    clear hj46
    refine x_iast (ws2 := wM g aM (sMv_46.parent, sMv_46.added, up sMv_46.wordMany t1_46 (t2_46 + t3_46), sMv_46.letterMany, sMv_46.versions, sMv_46.present) sMp sMt sMs sMc sMr) C Z 3 rfl (by decide) q4 dX7_make_47 rfl (fun H locs Z => ?_)
    refine lv_aload_n C.1 C.2.1 dX7_make_48 rfl (lv_at hl 0 rfl) ?_
    refine x_get C Z 0 rfl rfl i_X7_X7_make (k := 3) (by decide) (List.mem_of_getElem? (i := 6) rfl) rfl dX7_make_49 ?_
    refine lv_iload_n C.1 C.2.1 dX7_make_52 rfl (lv_at hl 2 rfl) ?_
    refine lv_aload_n C.1 C.2.1 dX7_make_53 rfl (lv_at hl 0 rfl) ?_
    refine x_get C Z 0 rfl rfl i_X7_X7_make (k := 3) (by decide) (List.mem_of_getElem? (i := 6) rfl) rfl dX7_make_54 ?_
    refine lv_aload_n C.1 C.2.1 dX7_make_57 rfl (lv_at hl 0 rfl) ?_
    refine x_get C Z 0 rfl rfl i_X7_X7_make (k := 5) (by decide) (List.mem_of_getElem? (i := 3) rfl) rfl dX7_make_58 ?_
    have q6 := (ix_some h5).1
    have h7 := (ix_some h5).2
    clear h5
    refine x_iald C Z 4 rfl (by decide) q6 dX7_make_61 ?_
    refine lv_iload_n C.1 C.2.1 dX7_make_62 rfl (lv_at hl 1 rfl) ?_
    refine x_iconst C dX7_make_63 ?_
    have q8 := (ck_some h7).1
    have h9 := (ck_some h7).2
    clear h7
    refine x_icmp_ne (tgt := 71) C dX7_make_64 (by decide) q8 (by decide) (fun c10 => ?_) (fun c10 => ?_)
    · have h11 := if_n h9 c10
      clear h9
      refine x_iconst C dX7_make_71 ?_
      exact hJ72 (sMv_46.parent, sMv_46.added, up sMv_46.wordMany t1_46 (t2_46 + t3_46), sMv_46.letterMany, sMv_46.versions, sMv_46.present) v2_46 v2_46 (sMv_46.letterMany sMv_46.present) 1 _ _ _ h11 Z (lv_sub hl [0, 2] rfl)
    · have h12 := if_p h9 c10
      clear h9
      refine x_iconst C dX7_make_67 ?_
      refine lv_goto (tgt := 72) C.1 C.2.1 dX7_make_68 (by decide) ?_
      exact hJ72 (sMv_46.parent, sMv_46.added, up sMv_46.wordMany t1_46 (t2_46 + t3_46), sMv_46.letterMany, sMv_46.versions, sMv_46.present) v2_46 v2_46 (sMv_46.letterMany sMv_46.present) 0 _ _ _ h12 Z (lv_sub hl [0, 2] rfl)
  refine lv_aload_n C.1 C.2.1 dX7_make_0 rfl (lv_at hl 0 rfl) ?_
  refine x_get C Z 0 rfl rfl i_X7_X7_make (k := 4) (by decide) (List.mem_of_getElem? (i := 1) rfl) rfl dX7_make_1 ?_
  refine lv_istore_n (lv' := [(2, .int (iI sMv.versions)), (0, .ref (aM 0)), (1, .int (iI v1))]) C.1 C.2.1 dX7_make_4 rfl hl (by decide) rfl (fun ls hl => ?_)
  refine lv_aload_n C.1 C.2.1 dX7_make_5 rfl (lv_at hl 1 rfl) ?_
  refine x_get C Z 0 rfl rfl i_X7_X7_make (k := 0) (by decide) (List.mem_of_getElem? (i := 2) rfl) rfl dX7_make_6 ?_
  refine lv_iload_n C.1 C.2.1 dX7_make_9 rfl (lv_at hl 0 rfl) ?_
  refine lv_aload_n C.1 C.2.1 dX7_make_10 rfl (lv_at hl 1 rfl) ?_
  refine x_get C Z 0 rfl rfl i_X7_X7_make (k := 5) (by decide) (List.mem_of_getElem? (i := 3) rfl) rfl dX7_make_11 ?_
  have q13 := (ix_some hf).1
  have h14 := (ix_some hf).2
  clear hf
  refine x_iast (ws2 := wM g aM (up sMv.parent sMv.versions sMv.present, sMv.added, sMv.wordMany, sMv.letterMany, sMv.versions, sMv.present) sMp sMt sMs sMc sMr) C Z 1 rfl (by decide) q13 dX7_make_14 rfl (fun H locs Z => ?_)
  refine lv_aload_n C.1 C.2.1 dX7_make_15 rfl (lv_at hl 1 rfl) ?_
  refine x_get C Z 0 rfl rfl i_X7_X7_make (k := 1) (by decide) (List.mem_of_getElem? (i := 4) rfl) rfl dX7_make_16 ?_
  refine lv_iload_n C.1 C.2.1 dX7_make_19 rfl (lv_at hl 0 rfl) ?_
  refine lv_iload_n C.1 C.2.1 dX7_make_20 rfl (lv_at hl 2 rfl) ?_
  refine x_iast (ws2 := wM g aM (up sMv.parent sMv.versions sMv.present, up sMv.added sMv.versions v1, sMv.wordMany, sMv.letterMany, sMv.versions, sMv.present) sMp sMt sMs sMc sMr) C Z 2 rfl (by decide) q13 dX7_make_21 rfl (fun H locs Z => ?_)
  refine lv_aload_n C.1 C.2.1 dX7_make_22 rfl (lv_at hl 1 rfl) ?_
  refine x_get C Z 0 rfl rfl i_X7_X7_make (k := 2) (by decide) (List.mem_of_getElem? (i := 5) rfl) rfl dX7_make_23 ?_
  refine lv_iload_n C.1 C.2.1 dX7_make_26 rfl (lv_at hl 0 rfl) ?_
  refine lv_aload_n C.1 C.2.1 dX7_make_27 rfl (lv_at hl 1 rfl) ?_
  refine x_get C Z 0 rfl rfl i_X7_X7_make (k := 2) (by decide) (List.mem_of_getElem? (i := 5) rfl) rfl dX7_make_28 ?_
  refine lv_aload_n C.1 C.2.1 dX7_make_31 rfl (lv_at hl 1 rfl) ?_
  refine x_get C Z 0 rfl rfl i_X7_X7_make (k := 5) (by decide) (List.mem_of_getElem? (i := 3) rfl) rfl dX7_make_32 ?_
  have q15 := (ix_some h14).1
  have h16 := (ix_some h14).2
  clear h14
  refine x_iald C Z 3 rfl (by decide) q15 dX7_make_35 ?_
  refine lv_iload_n C.1 C.2.1 dX7_make_36 rfl (lv_at hl 2 rfl) ?_
  refine x_iconst C dX7_make_37 ?_
  have q17 := (ck_some h16).1
  have h18 := (ck_some h16).2
  clear h16
  refine x_icmp_ne (tgt := 45) C dX7_make_38 (by decide) q17 (by decide) (fun c19 => ?_) (fun c19 => ?_)
  · have h20 := if_n h18 c19
    clear h18
    refine x_iconst C dX7_make_45 ?_
    exact hJ46 (up sMv.parent sMv.versions sMv.present, up sMv.added sMv.versions v1, sMv.wordMany, sMv.letterMany, sMv.versions, sMv.present) v1 sMv.versions sMv.versions (sMv.wordMany sMv.present) 0 _ _ _ h20 Z (lv_sub hl [1, 2, 0] rfl)
  · have h21 := if_p h18 c19
    clear h18
    refine x_iconst C dX7_make_41 ?_
    refine lv_goto (tgt := 46) C.1 C.2.1 dX7_make_42 (by decide) ?_
    exact hJ46 (up sMv.parent sMv.versions sMv.present, up sMv.added sMv.versions v1, sMv.wordMany, sMv.letterMany, sMv.versions, sMv.present) v1 sMv.versions sMv.versions (sMv.wordMany sMv.present) 1 _ _ _ h21 Z (lv_sub hl [1, 2, 0] rfl)
abbrev rmX7_begin : Room := { frames := 1, cells := 0, slots := 0, locals := 22 }
theorem yk_X7_begin : xY yX7_begin RX7 cX7_begin 1 (some .int) wsX7_begin rmX7_begin 0 := ⟨⟨_, rfl⟩, by decide +kernel, rfl, rfl⟩
theorem i_X7_X7_begin : ∀ w ∈ u_ws RX7 TX7 23, w ∈ wsX7_begin := fun _ h => List.mem_cons_of_mem _ (List.mem_append_right _ h)
set_option maxHeartbeats 4000000 in
set_option maxRecDepth 100000 in
theorem k_X7_begin (l : Launch) (g : xG) (n : Nat) (aM : Nat → Nat) (sMv : MvS) (sMp : MpS) (sMt : MtS) (sMs : MsS) (sMc : McS) (sMr : MrS) (r : Int × MvS) (hf : p_X7_begin sMv = some r) : xMi l yX7_begin wsX7_begin rmX7_begin g [.ref (aM 0)] (wM g aM sMv sMp sMt sMs sMc sMr) (wM g aM r.2 sMp sMt sMs sMc sMr) r.1 := by
  refine x_ofW_i (own := RX7) (by decide) rfl rfl (Nat.le_of_ble_eq_true rfl) ?_
  intro p e s m args below meth c ls A QQ C hRet Z hl
  have hl : lv_has ls 1 [(0, .ref (aM 0))] := hl
  unfold p_X7_begin at hf
  refine lv_aload_n C.1 C.2.1 dX7_begin_0 rfl (lv_at hl 0 rfl) ?_
  refine x_get C Z 0 rfl rfl i_X7_X7_begin (k := 2) (by decide) (List.mem_of_getElem? (i := 1) rfl) rfl dX7_begin_1 ?_
  refine lv_aload_n C.1 C.2.1 dX7_begin_4 rfl (lv_at hl 0 rfl) ?_
  refine x_get C Z 0 rfl rfl i_X7_X7_begin (k := 5) (by decide) (List.mem_of_getElem? (i := 2) rfl) rfl dX7_begin_5 ?_
  have q1 := (ix_some hf).1
  have h2 := (ix_some hf).2
  clear hf
  refine x_iald C Z 3 rfl (by decide) q1 dX7_begin_8 ?_
  refine x_bipush C dX7_begin_9 (by decide) ?_
  have q3 := (ck_some h2).1
  have h4 := (ck_some h2).2
  clear h2
  refine x_icmp_eq (tgt := 24) C dX7_begin_11 (by decide) q3 (by decide) (fun c5 => ?_) (fun c5 => ?_)
  · have h6 := if_p h4 c5
    clear h4
    refine x_bipush C dX7_begin_24 (by decide) ?_
    refine lv_goto (tgt := 34) C.1 C.2.1 dX7_begin_26 (by decide) ?_
    have h8 := Option.some.inj h6
    subst h8
    exact hRet _ _ _ _ Z dX7_begin_34
  · have h7 := if_n h4 c5
    clear h4
    refine lv_aload_n C.1 C.2.1 dX7_begin_14 rfl (lv_at hl 0 rfl) ?_
    refine x_get C Z 0 rfl rfl i_X7_X7_begin (k := 4) (by decide) (List.mem_of_getElem? (i := 3) rfl) rfl dX7_begin_15 ?_
    refine x_sipush C dX7_begin_18 (by decide) ?_
    have q9 := (ck_some h7).1
    have h10 := (ck_some h7).2
    clear h7
    refine x_icmp_ne (tgt := 29) C dX7_begin_21 (by decide) q9 (by decide) (fun c11 => ?_) (fun c11 => ?_)
    · have h12 := if_n h10 c11
      clear h10
      refine lv_aload_n C.1 C.2.1 dX7_begin_29 rfl (lv_at hl 0 rfl) ?_
      refine x_iconst C dX7_begin_30 ?_
      obtain ⟨r14, hr14, h15⟩ := bd_some h12
      clear h12
      refine x_callV_i_id (As := [.int (iI (-1))]) (rest := []) (q0 := 0) C Z (k_X7_make l g n aM sMv sMp sMt sMs sMc sMr (-1) r14 hr14) gX7_begin_X7_make yk_X7_make ⟨Nat.le_of_ble_eq_true rfl, Nat.le_of_ble_eq_true rfl⟩ rfl rfl ⟨Nat.zero_le _, Nat.zero_le _⟩ hl.1 rfl (Nat.le_of_ble_eq_true rfl) rfl dX7_begin_31 (fun H locs Z => ?_)
      have h16 := Option.some.inj h15
      subst h16
      exact hRet _ _ _ _ Z dX7_begin_34
    · have h13 := if_p h10 c11
      clear h10
      refine x_bipush C dX7_begin_24 (by decide) ?_
      refine lv_goto (tgt := 34) C.1 C.2.1 dX7_begin_26 (by decide) ?_
      have h17 := Option.some.inj h13
      subst h17
      exact hRet _ _ _ _ Z dX7_begin_34
abbrev rmX7_in : Room := { frames := 0, cells := 0, slots := 0, locals := 0 }
theorem yk_X7_in : xY yX7_in RX7 cX7_in 3 (some .boolean) wsX7_in rmX7_in 3 := ⟨⟨_, rfl⟩, by decide +kernel, rfl, rfl⟩
set_option maxHeartbeats 4000000 in
set_option maxRecDepth 100000 in
theorem k_X7_in (l : Launch) (g : xG) (n : Nat) (v0 : Int) (v1 : Int) (v2 : Int) (r : Int) (hf : p_X7_in v0 v1 v2 = some r) : xMi l yX7_in wsX7_in rmX7_in g [.int (iI v0), .int (iI v1), .int (iI v2)] ([]) ([]) r := by
  refine x_ofW_z (own := RX7) (by decide) rfl rfl (Nat.le_of_ble_eq_true rfl) ?_
  intro p e s m args below meth c ls A QQ C hRet Z hl
  have hl : lv_has ls 3 [(0, .int (iI v0)), (1, .int (iI v1)), (2, .int (iI v2))] := hl
  unfold p_X7_in at hf
  refine lv_iload_n C.1 C.2.1 dX7_in_0 rfl (lv_at hl 0 rfl) ?_
  refine lv_iload_n C.1 C.2.1 dX7_in_1 rfl (lv_at hl 1 rfl) ?_
  have q1 := (ck_some hf).1
  have h2 := (ck_some hf).2
  clear hf
  have q3 := (ck_some h2).1
  have h4 := (ck_some h2).2
  clear h2
  refine x_icmp_lt (tgt := 14) C dX7_in_2 (by decide) q1 q3 (fun c5 => ?_) (fun c5 => ?_)
  · have h6 := if_p h4 c5
    clear h4
    refine x_iconst C dX7_in_14 ?_
    have h8 := Option.some.inj h6
    subst h8
    exact hRet _ _ _ _ (x_bool (Or.inl rfl)) Z dX7_in_15
  · have h7 := if_n h4 c5
    clear h4
    refine lv_iload_n C.1 C.2.1 dX7_in_5 rfl (lv_at hl 0 rfl) ?_
    refine lv_iload_n C.1 C.2.1 dX7_in_6 rfl (lv_at hl 2 rfl) ?_
    have q9 := (ck_some h7).1
    have h10 := (ck_some h7).2
    clear h7
    refine x_icmp_gt (tgt := 14) C dX7_in_7 (by decide) q1 q9 (fun c11 => ?_) (fun c11 => ?_)
    · have h12 := if_p h10 c11
      clear h10
      refine x_iconst C dX7_in_14 ?_
      have h14 := Option.some.inj h12
      subst h14
      exact hRet _ _ _ _ (x_bool (Or.inl rfl)) Z dX7_in_15
    · have h13 := if_n h10 c11
      clear h10
      refine x_iconst C dX7_in_10 ?_
      refine lv_goto (tgt := 15) C.1 C.2.1 dX7_in_11 (by decide) ?_
      have h15 := Option.some.inj h13
      subst h15
      exact hRet _ _ _ _ (x_bool (Or.inr rfl)) Z dX7_in_15
abbrev rmX7_append : Room := { frames := 1, cells := 0, slots := 0, locals := 22 }
theorem yk_X7_append : xY yX7_append RX7 cX7_append 2 (some .int) wsX7_append rmX7_append 1 := ⟨⟨_, rfl⟩, by decide +kernel, rfl, rfl⟩
theorem i_X7_X7_append : ∀ w ∈ u_ws RX7 TX7 23, w ∈ wsX7_append := fun _ h => List.mem_cons_of_mem _ (List.mem_append_right _ h)
set_option maxHeartbeats 4000000 in
set_option maxRecDepth 100000 in
theorem k_X7_append (l : Launch) (g : xG) (n : Nat) (aM : Nat → Nat) (sMv : MvS) (sMp : MpS) (sMt : MtS) (sMs : MsS) (sMc : McS) (sMr : MrS) (v1 : Int) (r : Int × MvS) (hf : p_X7_append sMv v1 = some r) : xMi l yX7_append wsX7_append rmX7_append g [.ref (aM 0), .int (iI v1)] (wM g aM sMv sMp sMt sMs sMc sMr) (wM g aM r.2 sMp sMt sMs sMc sMr) r.1 := by
  refine x_ofW_i (own := RX7) (by decide) rfl rfl (Nat.le_of_ble_eq_true rfl) ?_
  intro p e s m args below meth c ls A QQ C hRet Z hl
  have hl : lv_has ls 2 [(0, .ref (aM 0)), (1, .int (iI v1))] := hl
  unfold p_X7_append at hf
  refine lv_iload_n C.1 C.2.1 dX7_append_0 rfl (lv_at hl 1 rfl) ?_
  refine x_iconst C dX7_append_1 ?_
  refine x_bipush C dX7_append_2 (by decide) ?_
  obtain ⟨r1, hr1, h2⟩ := bd_some hf
  clear hf
  refine x_callS_i (As := [.int (iI v1), .int (iI 0), .int (iI 7)]) (rest := []) C Z (k_X7_in l g n v1 0 7 r1 hr1) gX7_append_X7_in yk_X7_in ⟨Nat.le_of_ble_eq_true rfl, Nat.le_of_ble_eq_true rfl⟩ ⟨Nat.zero_le _, Nat.zero_le _⟩ hl.1 rfl (Nat.le_of_ble_eq_true rfl) rfl dX7_append_4 (fun H locs Z => ?_)
  have q3 := (ck_some h2).1
  have h4 := (ck_some h2).2
  clear h2
  refine x_if_ne (tgt := 13) C dX7_append_7 (by decide) q3 (fun c5 => ?_) (fun c5 => ?_)
  · have h6 := if_n h4 c5
    clear h4
    refine lv_aload_n C.1 C.2.1 dX7_append_13 rfl (lv_at hl 0 rfl) ?_
    refine x_get C Z 0 rfl rfl i_X7_X7_append (k := 2) (by decide) (List.mem_of_getElem? (i := 1) rfl) rfl dX7_append_14 ?_
    refine lv_aload_n C.1 C.2.1 dX7_append_17 rfl (lv_at hl 0 rfl) ?_
    refine x_get C Z 0 rfl rfl i_X7_X7_append (k := 5) (by decide) (List.mem_of_getElem? (i := 2) rfl) rfl dX7_append_18 ?_
    have q8 := (ix_some h6).1
    have h9 := (ix_some h6).2
    clear h6
    refine x_iald C Z 3 rfl (by decide) q8 dX7_append_21 ?_
    have q10 := (ck_some h9).1
    have h11 := (ck_some h9).2
    clear h9
    refine x_if_ne (tgt := 28) C dX7_append_22 (by decide) q10 (fun c12 => ?_) (fun c12 => ?_)
    · have h13 := if_n h11 c12
      clear h11
      refine lv_aload_n C.1 C.2.1 dX7_append_28 rfl (lv_at hl 0 rfl) ?_
      refine x_get C Z 0 rfl rfl i_X7_X7_append (k := 3) (by decide) (List.mem_of_getElem? (i := 3) rfl) rfl dX7_append_29 ?_
      refine lv_aload_n C.1 C.2.1 dX7_append_32 rfl (lv_at hl 0 rfl) ?_
      refine x_get C Z 0 rfl rfl i_X7_X7_append (k := 5) (by decide) (List.mem_of_getElem? (i := 2) rfl) rfl dX7_append_33 ?_
      refine x_iald C Z 4 rfl (by decide) q8 dX7_append_36 ?_
      refine x_bipush C dX7_append_37 (by decide) ?_
      have q17 := (ck_some h13).1
      have h18 := (ck_some h13).2
      clear h13
      refine x_icmp_eq (tgt := 52) C dX7_append_39 (by decide) q17 (by decide) (fun c19 => ?_) (fun c19 => ?_)
      · have h20 := if_p h18 c19
        clear h18
        refine x_bipush C dX7_append_52 (by decide) ?_
        refine lv_goto (tgt := 62) C.1 C.2.1 dX7_append_54 (by decide) ?_
        have h22 := Option.some.inj h20
        subst h22
        exact hRet _ _ _ _ Z dX7_append_62
      · have h21 := if_n h18 c19
        clear h18
        refine lv_aload_n C.1 C.2.1 dX7_append_42 rfl (lv_at hl 0 rfl) ?_
        refine x_get C Z 0 rfl rfl i_X7_X7_append (k := 4) (by decide) (List.mem_of_getElem? (i := 4) rfl) rfl dX7_append_43 ?_
        refine x_sipush C dX7_append_46 (by decide) ?_
        have q23 := (ck_some h21).1
        have h24 := (ck_some h21).2
        clear h21
        refine x_icmp_ne (tgt := 57) C dX7_append_49 (by decide) q23 (by decide) (fun c25 => ?_) (fun c25 => ?_)
        · have h26 := if_n h24 c25
          clear h24
          refine lv_aload_n C.1 C.2.1 dX7_append_57 rfl (lv_at hl 0 rfl) ?_
          refine lv_iload_n C.1 C.2.1 dX7_append_58 rfl (lv_at hl 1 rfl) ?_
          obtain ⟨r28, hr28, h29⟩ := bd_some h26
          clear h26
          refine x_callV_i_id (As := [.int (iI v1)]) (rest := []) (q0 := 0) C Z (k_X7_make l g n aM sMv sMp sMt sMs sMc sMr v1 r28 hr28) gX7_append_X7_make yk_X7_make ⟨Nat.le_of_ble_eq_true rfl, Nat.le_of_ble_eq_true rfl⟩ rfl rfl ⟨Nat.zero_le _, Nat.zero_le _⟩ hl.1 rfl (Nat.le_of_ble_eq_true rfl) rfl dX7_append_59 (fun H locs Z => ?_)
          have h30 := Option.some.inj h29
          subst h30
          exact hRet _ _ _ _ Z dX7_append_62
        · have h27 := if_p h24 c25
          clear h24
          refine x_bipush C dX7_append_52 (by decide) ?_
          refine lv_goto (tgt := 62) C.1 C.2.1 dX7_append_54 (by decide) ?_
          have h31 := Option.some.inj h27
          subst h31
          exact hRet _ _ _ _ Z dX7_append_62
    · have h14 := if_p h11 c12
      clear h11
      refine x_bipush C dX7_append_25 (by decide) ?_
      have h32 := Option.some.inj h14
      subst h32
      exact hRet _ _ _ _ Z dX7_append_27
  · have h7 := if_p h4 c5
    clear h4
    refine x_bipush C dX7_append_10 (by decide) ?_
    have h33 := Option.some.inj h7
    subst h33
    exact hRet _ _ _ _ Z dX7_append_12
abbrev rmX7_isLetter : Room := { frames := 1, cells := 0, slots := 0, locals := 22 }
theorem yk_X7_isLetter : xY yX7_isLetter RX7 cX7_isLetter 2 (some .boolean) wsX7_isLetter rmX7_isLetter 1 := ⟨⟨_, rfl⟩, by decide +kernel, rfl, rfl⟩
set_option maxHeartbeats 4000000 in
set_option maxRecDepth 100000 in
theorem k_X7_isLetter (l : Launch) (g : xG) (n : Nat) (aM : Nat → Nat) (sMv : MvS) (sMp : MpS) (sMt : MtS) (sMs : MsS) (sMc : McS) (sMr : MrS) (v1 : Int) (r : Int) (hf : p_X7_isLetter v1 = some r) : xMi l yX7_isLetter wsX7_isLetter rmX7_isLetter g [.ref (aM 0), .int (iI v1)] (wM g aM sMv sMp sMt sMs sMc sMr) (wM g aM sMv sMp sMt sMs sMc sMr) r := by
  refine x_ofW_z (own := RX7) (by decide) rfl rfl (Nat.le_of_ble_eq_true rfl) ?_
  intro p e s m args below meth c ls A QQ C hRet Z hl
  have hl : lv_has ls 2 [(0, .ref (aM 0)), (1, .int (iI v1))] := hl
  unfold p_X7_isLetter at hf
  refine lv_iload_n C.1 C.2.1 dX7_isLetter_0 rfl (lv_at hl 1 rfl) ?_
  refine x_bipush C dX7_isLetter_1 (by decide) ?_
  refine x_bipush C dX7_isLetter_3 (by decide) ?_
  obtain ⟨r1, hr1, h2⟩ := bd_some hf
  clear hf
  refine x_callS_i (As := [.int (iI v1), .int (iI 97), .int (iI 104)]) (rest := []) C Z (k_X7_in l g n v1 97 104 r1 hr1) gX7_isLetter_X7_in yk_X7_in ⟨Nat.le_of_ble_eq_true rfl, Nat.le_of_ble_eq_true rfl⟩ ⟨Nat.zero_le _, Nat.zero_le _⟩ hl.1 rfl (Nat.le_of_ble_eq_true rfl) rfl dX7_isLetter_5 (fun H locs Z => ?_)
  have q3 := (bk_some h2).1
  have h4 := (bk_some h2).2
  clear h2
  have h5 := Option.some.inj h4
  subst h5
  exact hRet _ _ _ _ (x_bool q3) Z dX7_isLetter_8
abbrev rmX7_faultOf : Room := { frames := 2, cells := 0, slots := 0, locals := 43 }
theorem yk_X7_faultOf : xY yX7_faultOf RX7 cX7_faultOf 3 (some .int) wsX7_faultOf rmX7_faultOf 1 := ⟨⟨_, rfl⟩, by decide +kernel, rfl, rfl⟩
theorem i_X7_X7_faultOf : ∀ w ∈ u_ws RX7 TX7 23, w ∈ wsX7_faultOf := fun _ h => List.mem_cons_of_mem _ (List.mem_append_right _ h)
set_option maxHeartbeats 4000000 in
set_option maxRecDepth 100000 in
theorem k_X7_faultOf (l : Launch) (g : xG) (n : Nat) (aM : Nat → Nat) (sMv : MvS) (sMp : MpS) (sMt : MtS) (sMs : MsS) (sMc : McS) (sMr : MrS) (v1 : Int) (r : Int) (hf : p_X7_faultOf n sMp v1 = some r) : xMi l yX7_faultOf wsX7_faultOf rmX7_faultOf g [.ref (aM 0), .int (iI v1)] (wM g aM sMv sMp sMt sMs sMc sMr) (wM g aM sMv sMp sMt sMs sMc sMr) r := by
  refine x_ofW_i (own := RX7) (by decide) rfl rfl (Nat.le_of_ble_eq_true rfl) ?_
  intro p e s m args below meth c ls A QQ C hRet Z hl
  have hl : lv_has ls 3 [(0, .ref (aM 0)), (1, .int (iI v1))] := hl
  unfold p_X7_faultOf at hf
  refine x_iconst C dX7_faultOf_0 ?_
  refine lv_istore_n (lv' := [(2, .int (iI 0)), (0, .ref (aM 0)), (1, .int (iI v1))]) C.1 C.2.1 dX7_faultOf_1 rfl hl (by decide) rfl (fun ls hl => ?_)
  obtain ⟨ex2, hl2, h69⟩ := bd_some hf
  clear hf
  have hK2 : ∀ (e2 : Unit) (H : Heap) (locs : List Loc) (ls : Array Slot), ex2 = .inr e2 → xSt g A s (wM g aM sMv sMp sMt sMs sMc sMr) H locs → lv_has ls 3 [(0, .ref (aM 0)), (1, .int (iI v1))] → W p l e rmX7_faultOf s m args below meth c H locs 0 0 QQ (F0 m 47 ls []) := by
    intro e2 H locs ls he Z hl
    subst he
    have h70 := (Sum.elim_inr ..).symm.trans h69
    clear h69
    refine lv_iload_n C.1 C.2.1 dX7_faultOf_47 rfl (lv_at hl 1 rfl) ?_
    have q71 := (ck_some h70).1
    have h72 := (ck_some h70).2
    clear h70
    refine x_if_ne (tgt := 62) C dX7_faultOf_48 (by decide) q71 (fun c73 => ?_) (fun c73 => ?_)
    · have h74 := if_n h72 c73
      clear h72
      refine x_bipush C dX7_faultOf_62 (by decide) ?_
      have h76 := Option.some.inj h74
      subst h76
      exact hRet _ _ _ _ Z dX7_faultOf_64
    · have h75 := if_p h72 c73
      clear h72
      refine lv_aload_n C.1 C.2.1 dX7_faultOf_51 rfl (lv_at hl 0 rfl) ?_
      refine x_get C Z 0 rfl rfl i_X7_X7_faultOf (k := 7) (by decide) (List.mem_of_getElem? (i := 1) rfl) rfl dX7_faultOf_52 ?_
      have q77 := (ck_some h75).1
      have h78 := (ck_some h75).2
      clear h75
      refine x_if_ne (tgt := 62) C dX7_faultOf_55 (by decide) q77 (fun c79 => ?_) (fun c79 => ?_)
      · have h80 := if_n h78 c79
        clear h78
        refine x_bipush C dX7_faultOf_62 (by decide) ?_
        have h82 := Option.some.inj h80
        subst h82
        exact hRet _ _ _ _ Z dX7_faultOf_64
      · have h81 := if_p h78 c79
        clear h78
        refine x_iconst C dX7_faultOf_58 ?_
        refine lv_goto (tgt := 64) C.1 C.2.1 dX7_faultOf_59 (by decide) ?_
        have h83 := Option.some.inj h81
        subst h83
        exact hRet _ _ _ _ Z dX7_faultOf_64
  have hL2 : ∀ (k2 : Nat) (z2 : Int) (H : Heap) (locs : List Loc) (ls : Array Slot), lp (p_X7_faultOf_b2 n sMp v1) k2 z2 = some ex2 → xSt g A s (wM g aM sMv sMp sMt sMs sMc sMr) H locs → lv_has ls 3 [(0, .ref (aM 0)), (1, .int (iI v1)), (2, .int (iI z2))] → W p l e rmX7_faultOf s m args below meth c H locs 0 0 QQ (F0 m 2 ls []) := by
    intro k2
    induction k2 with
    | zero => intro z2 H locs ls h; exact (lp_0 h).elim
    | succ k2 ih2 =>
      intro z2 H locs ls h Z hl
      obtain ⟨x2, hb2, hx2⟩ := lp_s h
      clear h
      unfold p_X7_faultOf_b2 at hb2
      refine lv_iload_n C.1 C.2.1 dX7_faultOf_2 rfl (lv_at hl 2 rfl) ?_
      refine lv_aload_n C.1 C.2.1 dX7_faultOf_3 rfl (lv_at hl 0 rfl) ?_
      refine x_get C Z 0 rfl rfl i_X7_X7_faultOf (k := 7) (by decide) (List.mem_of_getElem? (i := 1) rfl) rfl dX7_faultOf_4 ?_
      have q35 := (ck_some hb2).1
      have h36 := (ck_some hb2).2
      clear hb2
      have q37 := (ck_some h36).1
      have h38 := (ck_some h36).2
      clear h36
      refine x_icmp_ge (tgt := 47) C dX7_faultOf_7 (by decide) q35 q37 (fun c39 => ?_) (fun c39 => ?_)
      · have h40 := if_n h38 c39
        clear h38
        cases h40
        exact hK2 () _ _ _ (lp_R hx2).symm Z (lv_sub hl [0, 1] rfl)
      · have h41 := if_p h38 c39
        clear h38
        refine lv_aload_n C.1 C.2.1 dX7_faultOf_10 rfl (lv_at hl 0 rfl) ?_
        refine lv_aload_n C.1 C.2.1 dX7_faultOf_11 rfl (lv_at hl 0 rfl) ?_
        refine x_get C Z 0 rfl rfl i_X7_X7_faultOf (k := 6) (by decide) (List.mem_of_getElem? (i := 2) rfl) rfl dX7_faultOf_12 ?_
        refine lv_iload_n C.1 C.2.1 dX7_faultOf_15 rfl (lv_at hl 2 rfl) ?_
        have q42 := (ix_some h41).1
        have h43 := (ix_some h41).2
        clear h41
        refine x_iald C Z 5 rfl (by decide) q42 dX7_faultOf_16 ?_
        obtain ⟨r44, hr44, h45⟩ := bd_some h43
        clear h43
        refine x_callV_i_id (As := [.int (iI (sMp.pad z2))]) (rest := []) (q0 := 0) C Z (k_X7_isLetter l g n aM sMv sMp sMt sMs sMc sMr (sMp.pad z2) r44 hr44) gX7_faultOf_X7_isLetter yk_X7_isLetter ⟨Nat.le_of_ble_eq_true rfl, Nat.le_of_ble_eq_true rfl⟩ rfl rfl ⟨Nat.zero_le _, Nat.zero_le _⟩ hl.1 rfl (Nat.le_of_ble_eq_true rfl) rfl dX7_faultOf_17 (fun H locs Z => ?_)
        have q46 := (ck_some h45).1
        have h47 := (ck_some h45).2
        clear h45
        refine x_if_ne (tgt := 41) C dX7_faultOf_20 (by decide) q46 (fun c48 => ?_) (fun c48 => ?_)
        · have h49 := if_n h47 c48
          clear h47
          refine x_iinc (lv' := [(2, .int (iI (z2 + 1))), (0, .ref (aM 0)), (1, .int (iI v1))]) C dX7_faultOf_41 hl (k := 2) rfl (by decide) rfl (fun ls hl => ?_)
          refine lv_goto (tgt := 2) C.1 C.2.1 dX7_faultOf_44 (by decide) ?_
          cases h49
          exact ih2 (z2 + 1) _ _ _ (lp_L2 hx2) Z (lv_sub hl [1, 2, 0] rfl)
        · have h50 := if_p h47 c48
          clear h47
          refine lv_iload_n C.1 C.2.1 dX7_faultOf_23 rfl (lv_at hl 1 rfl) ?_
          refine x_iconst C dX7_faultOf_24 ?_
          have q51 := (ck_some h50).1
          have h52 := (ck_some h50).2
          clear h50
          refine x_icmp_ne (tgt := 39) C dX7_faultOf_25 (by decide) q51 (by decide) (fun c53 => ?_) (fun c53 => ?_)
          · have h54 := if_n h52 c53
            clear h52
            refine lv_iload_n C.1 C.2.1 dX7_faultOf_39 rfl (lv_at hl 2 rfl) ?_
            cases h54
            have h56 := lp_R hx2
            subst h56
            have h57 := (Sum.elim_inl ..).symm.trans h69
            have h58 := Option.some.inj h57
            subst h58
            exact hRet _ _ _ _ Z dX7_faultOf_40
          · have h55 := if_p h52 c53
            clear h52
            refine lv_aload_n C.1 C.2.1 dX7_faultOf_28 rfl (lv_at hl 0 rfl) ?_
            refine x_get C Z 0 rfl rfl i_X7_X7_faultOf (k := 6) (by decide) (List.mem_of_getElem? (i := 2) rfl) rfl dX7_faultOf_29 ?_
            refine lv_iload_n C.1 C.2.1 dX7_faultOf_32 rfl (lv_at hl 2 rfl) ?_
            refine x_iald C Z 5 rfl (by decide) q42 dX7_faultOf_33 ?_
            refine x_bipush C dX7_faultOf_34 (by decide) ?_
            have q61 := (ck_some h55).1
            have h62 := (ck_some h55).2
            clear h55
            refine x_icmp_eq (tgt := 41) C dX7_faultOf_36 (by decide) q61 (by decide) (fun c63 => ?_) (fun c63 => ?_)
            · have h64 := if_p h62 c63
              clear h62
              refine x_iinc (lv' := [(2, .int (iI (z2 + 1))), (0, .ref (aM 0)), (1, .int (iI v1))]) C dX7_faultOf_41 hl (k := 2) rfl (by decide) rfl (fun ls hl => ?_)
              refine lv_goto (tgt := 2) C.1 C.2.1 dX7_faultOf_44 (by decide) ?_
              cases h64
              exact ih2 (z2 + 1) _ _ _ (lp_L2 hx2) Z (lv_sub hl [1, 2, 0] rfl)
            · have h65 := if_n h62 c63
              clear h62
              refine lv_iload_n C.1 C.2.1 dX7_faultOf_39 rfl (lv_at hl 2 rfl) ?_
              cases h65
              have h66 := lp_R hx2
              subst h66
              have h67 := (Sum.elim_inl ..).symm.trans h69
              have h68 := Option.some.inj h67
              subst h68
              exact hRet _ _ _ _ Z dX7_faultOf_40
  exact hL2 n 0 _ _ _ hl2 Z (lv_sub hl [1, 2, 0] rfl)
abbrev rmX7_load : Room := { frames := 3, cells := 0, slots := 0, locals := 65 }
theorem yk_X7_load : xY yX7_load RX7 cX7_load 4 (some .int) wsX7_load rmX7_load 0 := ⟨⟨_, rfl⟩, by decide +kernel, rfl, rfl⟩
theorem i_X7_X7_load : ∀ w ∈ u_ws RX7 TX7 23, w ∈ wsX7_load := fun _ h => List.mem_cons_of_mem _ (List.mem_append_right _ h)
set_option maxHeartbeats 4000000 in
set_option maxRecDepth 100000 in
theorem k_X7_load (l : Launch) (g : xG) (n : Nat) (aM : Nat → Nat) (sMv : MvS) (sMp : MpS) (sMt : MtS) (sMs : MsS) (sMc : McS) (sMr : MrS) (r : Int × MvS × MpS) (hf : p_X7_load n sMv sMp = some r) : xMi l yX7_load wsX7_load rmX7_load g [.ref (aM 0)] (wM g aM sMv sMp sMt sMs sMc sMr) (wM g aM r.2.1 r.2.2 sMt sMs sMc sMr) r.1 := by
  refine x_ofW_i (own := RX7) (by decide) rfl rfl (Nat.le_of_ble_eq_true rfl) ?_
  intro p e s m args below meth c ls A QQ C hRet Z hl
  have hl : lv_has ls 4 [(0, .ref (aM 0))] := hl
  unfold p_X7_load at hf
  have hJ46 : ∀ (sMv_46 : MvS) (sMp_46 : MpS) (H : Heap) (locs : List Loc) (ls : Array Slot), p_X7_load_j46 n sMv_46 sMp_46 = some r → xSt g A s (wM g aM sMv_46 sMp_46 sMt sMs sMc sMr) H locs → lv_has ls 4 [(0, .ref (aM 0))] → W p l e rmX7_load s m args below meth c H locs 0 0 QQ (F0 m 46 ls []) := by
    intro sMv_46 sMp_46 H locs ls hj46 Z hl
    unfold p_X7_load_j46 at hj46
    refine x_iconst C dX7_load_46 ?_
    refine lv_istore_n (lv' := [(1, .int (iI 0)), (0, .ref (aM 0))]) C.1 C.2.1 dX7_load_47 rfl hl (by decide) rfl (fun ls hl => ?_)
    refine x_iconst C dX7_load_48 ?_
    refine lv_istore_n (lv' := [(2, .int (iI 0)), (1, .int (iI 0)), (0, .ref (aM 0))]) C.1 C.2.1 dX7_load_49 rfl hl (by decide) rfl (fun ls hl => ?_)
    obtain ⟨ex50, hl50, h31⟩ := bd_some hj46
    clear hj46
    have hK50 : ∀ (H : Heap) (locs : List Loc) (ls : Array Slot), xSt g A s (wM g aM sMv_46 sMp_46 sMt sMs sMc sMr) H locs → lv_has ls 4 [(0, .ref (aM 0)), (1, .int (iI ex50))] → W p l e rmX7_load s m args below meth c H locs 0 0 QQ (F0 m 83 ls []) := by
      intro H locs ls Z hl
      have h32 := h31
      clear h31
      refine lv_aload_n C.1 C.2.1 dX7_load_83 rfl (lv_at hl 0 rfl) ?_
      refine x_get C Z 0 rfl rfl i_X7_X7_load (k := 2) (by decide) (List.mem_of_getElem? (i := 3) rfl) rfl dX7_load_84 ?_
      refine lv_aload_n C.1 C.2.1 dX7_load_87 rfl (lv_at hl 0 rfl) ?_
      refine x_get C Z 0 rfl rfl i_X7_X7_load (k := 5) (by decide) (List.mem_of_getElem? (i := 4) rfl) rfl dX7_load_88 ?_
      have q33 := (ix_some h32).1
      have h34 := (ix_some h32).2
      clear h32
      refine x_iald C Z 3 rfl (by decide) q33 dX7_load_91 ?_
      refine lv_iload_n C.1 C.2.1 dX7_load_92 rfl (lv_at hl 1 rfl) ?_
      refine x_iadd C dX7_load_93 ?_
      refine x_bipush C dX7_load_94 (by decide) ?_
      have q35 := (ck_some h34).1
      have h36 := (ck_some h34).2
      clear h34
      refine x_icmp_gt (tgt := 135) C dX7_load_96 (by decide) q35 (by decide) (fun c37 => ?_) (fun c37 => ?_)
      · have h38 := if_p h36 c37
        clear h36
        refine x_bipush C dX7_load_135 (by decide) ?_
        have h40 := Option.some.inj h38
        subst h40
        exact hRet _ _ _ _ Z dX7_load_137
      · have h39 := if_n h36 c37
        clear h36
        refine lv_aload_n C.1 C.2.1 dX7_load_99 rfl (lv_at hl 0 rfl) ?_
        refine x_get C Z 0 rfl rfl i_X7_X7_load (k := 3) (by decide) (List.mem_of_getElem? (i := 5) rfl) rfl dX7_load_100 ?_
        refine lv_aload_n C.1 C.2.1 dX7_load_103 rfl (lv_at hl 0 rfl) ?_
        refine x_get C Z 0 rfl rfl i_X7_X7_load (k := 5) (by decide) (List.mem_of_getElem? (i := 4) rfl) rfl dX7_load_104 ?_
        refine x_iald C Z 4 rfl (by decide) q33 dX7_load_107 ?_
        refine lv_aload_n C.1 C.2.1 dX7_load_108 rfl (lv_at hl 0 rfl) ?_
        refine x_get C Z 0 rfl rfl i_X7_X7_load (k := 7) (by decide) (List.mem_of_getElem? (i := 1) rfl) rfl dX7_load_109 ?_
        refine x_iadd C dX7_load_112 ?_
        refine lv_iload_n C.1 C.2.1 dX7_load_113 rfl (lv_at hl 1 rfl) ?_
        refine x_isub C dX7_load_114 ?_
        refine x_bipush C dX7_load_115 (by decide) ?_
        have q43 := (ck_some h39).1
        have h44 := (ck_some h39).2
        clear h39
        refine x_icmp_gt (tgt := 135) C dX7_load_117 (by decide) q43 (by decide) (fun c45 => ?_) (fun c45 => ?_)
        · have h46 := if_p h44 c45
          clear h44
          refine x_bipush C dX7_load_135 (by decide) ?_
          have h48 := Option.some.inj h46
          subst h48
          exact hRet _ _ _ _ Z dX7_load_137
        · have h47 := if_n h44 c45
          clear h44
          refine lv_aload_n C.1 C.2.1 dX7_load_120 rfl (lv_at hl 0 rfl) ?_
          refine x_get C Z 0 rfl rfl i_X7_X7_load (k := 4) (by decide) (List.mem_of_getElem? (i := 6) rfl) rfl dX7_load_121 ?_
          refine lv_aload_n C.1 C.2.1 dX7_load_124 rfl (lv_at hl 0 rfl) ?_
          refine x_get C Z 0 rfl rfl i_X7_X7_load (k := 7) (by decide) (List.mem_of_getElem? (i := 1) rfl) rfl dX7_load_125 ?_
          refine x_iadd C dX7_load_128 ?_
          refine x_sipush C dX7_load_129 (by decide) ?_
          have q49 := (ck_some h47).1
          have h50 := (ck_some h47).2
          clear h47
          refine x_icmp_le (tgt := 138) C dX7_load_132 (by decide) q49 (by decide) (fun c51 => ?_) (fun c51 => ?_)
          · have h52 := if_n h50 c51
            clear h50
            refine x_iconst C dX7_load_138 ?_
            refine lv_istore_n (lv' := [(2, .int (iI 0)), (0, .ref (aM 0)), (1, .int (iI ex50))]) C.1 C.2.1 dX7_load_139 rfl hl (by decide) rfl (fun ls hl => ?_)
            obtain ⟨ex140, hl140, h93⟩ := bd_some h52
            clear h52
            have hK140 : ∀ (H : Heap) (locs : List Loc) (ls : Array Slot), xSt g A s (wM g aM ex140 sMp_46 sMt sMs sMc sMr) H locs → lv_has ls 4 [(0, .ref (aM 0))] → W p l e rmX7_load s m args below meth c H locs 0 0 QQ (F0 m 183 ls []) := by
              intro H locs ls Z hl
              have h94 := h93
              clear h93
              refine lv_aload_n C.1 C.2.1 dX7_load_183 rfl (lv_at hl 0 rfl) ?_
              refine x_iconst C dX7_load_184 ?_
              refine x_put (ws2 := wM g aM ex140 (sMp_46.pad, 0) sMt sMs sMc sMr) C Z 0 rfl rfl i_X7_X7_load tyX7_ok nmX7 (k := 7) (by decide) (List.mem_of_getElem? (i := 1) rfl) rfl rfl (Nat.le_of_ble_eq_true rfl) dX7_load_185 rfl (fun H locs Z => ?_)
              refine lv_aload_n C.1 C.2.1 dX7_load_188 rfl (lv_at hl 0 rfl) ?_
              refine x_get C Z 0 rfl rfl i_X7_X7_load (k := 5) (by decide) (List.mem_of_getElem? (i := 4) rfl) rfl dX7_load_189 ?_
              have h95 := Option.some.inj h94
              subst h95
              exact hRet _ _ _ _ Z dX7_load_192
            have hL140 : ∀ (k140 : Nat) (z140 : Int × MvS) (H : Heap) (locs : List Loc) (ls : Array Slot), lp (p_X7_load_b140 n sMp_46) k140 z140 = some ex140 → xSt g A s (wM g aM z140.2 sMp_46 sMt sMs sMc sMr) H locs → lv_has ls 4 [(0, .ref (aM 0)), (2, .int (iI z140.1))] → W p l e rmX7_load s m args below meth c H locs 0 0 QQ (F0 m 140 ls []) := by
              intro k140
              induction k140 with
              | zero => intro z140 H locs ls h; exact (lp_0 h).elim
              | succ k140 ih140 =>
                intro z140 H locs ls h Z hl
                obtain ⟨x140, hb140, hx140⟩ := lp_s h
                clear h
                unfold p_X7_load_b140 at hb140
                have hJ173 : ∀ (sMv_173 : MvS) (v2_173 : Int) (t1_173 : Int) (H : Heap) (locs : List Loc) (ls : Array Slot), p_X7_load_j173 n sMv_173 v2_173 t1_173 = some x140 → xSt g A s (wM g aM sMv_173 sMp_46 sMt sMs sMc sMr) H locs → lv_has ls 4 [(0, .ref (aM 0)), (2, .int (iI v2_173))] → W p l e rmX7_load s m args below meth c H locs 0 0 QQ (F0 m 173 ls [.int (iI t1_173), .ref (aM 0)]) := by
                  intro sMv_173 v2_173 t1_173 H locs ls hj173 Z hl
                  unfold p_X7_load_j173 at hj173
                  obtain ⟨r74, hr74, h75⟩ := bd_some hj173
                  clear hj173
                  refine x_callV_i_id (As := [.int (iI t1_173)]) (rest := []) (q0 := 0) C Z (k_X7_make l g n aM sMv_173 sMp_46 sMt sMs sMc sMr t1_173 r74 hr74) gX7_load_X7_make yk_X7_make ⟨Nat.le_of_ble_eq_true rfl, Nat.le_of_ble_eq_true rfl⟩ rfl rfl ⟨Nat.zero_le _, Nat.zero_le _⟩ hl.1 rfl (Nat.le_of_ble_eq_true rfl) rfl dX7_load_173 (fun H locs Z => ?_)
                  refine lv_istore_n (lv' := [(3, .int (iI r74.1)), (0, .ref (aM 0)), (2, .int (iI v2_173))]) C.1 C.2.1 dX7_load_176 rfl hl (by decide) rfl (fun ls hl => ?_)
                  refine x_iinc (lv' := [(2, .int (iI (v2_173 + 1))), (3, .int (iI r74.1)), (0, .ref (aM 0))]) C dX7_load_177 hl (k := 2) rfl (by decide) rfl (fun ls hl => ?_)
                  refine lv_goto (tgt := 140) C.1 C.2.1 dX7_load_180 (by decide) ?_
                  cases h75
                  exact ih140 (v2_173 + 1, r74.2) _ _ _ (lp_L2 hx140) Z (lv_sub hl [2, 0] rfl)
                refine lv_iload_n C.1 C.2.1 dX7_load_140 rfl (lv_at hl 1 rfl) ?_
                refine lv_aload_n C.1 C.2.1 dX7_load_141 rfl (lv_at hl 0 rfl) ?_
                refine x_get C Z 0 rfl rfl i_X7_X7_load (k := 7) (by decide) (List.mem_of_getElem? (i := 1) rfl) rfl dX7_load_142 ?_
                have q76 := (ck_some hb140).1
                have h77 := (ck_some hb140).2
                clear hb140
                have q78 := (ck_some h77).1
                have h79 := (ck_some h77).2
                clear h77
                refine x_icmp_ge (tgt := 183) C dX7_load_145 (by decide) q76 q78 (fun c80 => ?_) (fun c80 => ?_)
                · have h81 := if_n h79 c80
                  clear h79
                  cases h81
                  have h83 := lp_R hx140
                  subst h83
                  exact hK140 _ _ _ Z (lv_sub hl [0] rfl)
                · have h82 := if_p h79 c80
                  clear h79
                  refine lv_aload_n C.1 C.2.1 dX7_load_148 rfl (lv_at hl 0 rfl) ?_
                  refine lv_aload_n C.1 C.2.1 dX7_load_149 rfl (lv_at hl 0 rfl) ?_
                  refine x_get C Z 0 rfl rfl i_X7_X7_load (k := 6) (by decide) (List.mem_of_getElem? (i := 2) rfl) rfl dX7_load_150 ?_
                  refine lv_iload_n C.1 C.2.1 dX7_load_153 rfl (lv_at hl 1 rfl) ?_
                  have q84 := (ix_some h82).1
                  have h85 := (ix_some h82).2
                  clear h82
                  refine x_iald C Z 5 rfl (by decide) q84 dX7_load_154 ?_
                  refine x_bipush C dX7_load_155 (by decide) ?_
                  have q86 := (ck_some h85).1
                  have h87 := (ck_some h85).2
                  clear h85
                  refine x_icmp_ne (tgt := 164) C dX7_load_157 (by decide) q86 (by decide) (fun c88 => ?_) (fun c88 => ?_)
                  · have h89 := if_n h87 c88
                    clear h87
                    refine lv_aload_n C.1 C.2.1 dX7_load_164 rfl (lv_at hl 0 rfl) ?_
                    refine x_get C Z 0 rfl rfl i_X7_X7_load (k := 6) (by decide) (List.mem_of_getElem? (i := 2) rfl) rfl dX7_load_165 ?_
                    refine lv_iload_n C.1 C.2.1 dX7_load_168 rfl (lv_at hl 1 rfl) ?_
                    refine x_iald C Z 5 rfl (by decide) q84 dX7_load_169 ?_
                    refine x_bipush C dX7_load_170 (by decide) ?_
                    refine x_isub C dX7_load_172 ?_
                    exact hJ173 z140.2 z140.1 ((sMp_46.pad z140.1) - 97) _ _ _ h89 Z (lv_sub hl [0, 1] rfl)
                  · have h90 := if_p h87 c88
                    clear h87
                    refine x_iconst C dX7_load_160 ?_
                    refine lv_goto (tgt := 173) C.1 C.2.1 dX7_load_161 (by decide) ?_
                    exact hJ173 z140.2 z140.1 (-1) _ _ _ h90 Z (lv_sub hl [0, 1] rfl)
            exact hL140 n (0, sMv_46) _ _ _ hl140 Z (lv_sub hl [1, 0] rfl)
          · have h53 := if_p h50 c51
            clear h50
            refine x_bipush C dX7_load_135 (by decide) ?_
            have h96 := Option.some.inj h53
            subst h96
            exact hRet _ _ _ _ Z dX7_load_137
    have hL50 : ∀ (k50 : Nat) (z50 : Int × Int) (H : Heap) (locs : List Loc) (ls : Array Slot), lp (p_X7_load_b50 n sMp_46) k50 z50 = some ex50 → xSt g A s (wM g aM sMv_46 sMp_46 sMt sMs sMc sMr) H locs → lv_has ls 4 [(0, .ref (aM 0)), (1, .int (iI z50.1)), (2, .int (iI z50.2))] → W p l e rmX7_load s m args below meth c H locs 0 0 QQ (F0 m 50 ls []) := by
      intro k50
      induction k50 with
      | zero => intro z50 H locs ls h; exact (lp_0 h).elim
      | succ k50 ih50 =>
        intro z50 H locs ls h Z hl
        obtain ⟨x50, hb50, hx50⟩ := lp_s h
        clear h
        unfold p_X7_load_b50 at hb50
        refine lv_iload_n C.1 C.2.1 dX7_load_50 rfl (lv_at hl 2 rfl) ?_
        refine lv_aload_n C.1 C.2.1 dX7_load_51 rfl (lv_at hl 0 rfl) ?_
        refine x_get C Z 0 rfl rfl i_X7_X7_load (k := 7) (by decide) (List.mem_of_getElem? (i := 1) rfl) rfl dX7_load_52 ?_
        have q16 := (ck_some hb50).1
        have h17 := (ck_some hb50).2
        clear hb50
        have q18 := (ck_some h17).1
        have h19 := (ck_some h17).2
        clear h17
        refine x_icmp_ge (tgt := 83) C dX7_load_55 (by decide) q16 q18 (fun c20 => ?_) (fun c20 => ?_)
        · have h21 := if_n h19 c20
          clear h19
          cases h21
          have h23 := lp_R hx50
          subst h23
          exact hK50 _ _ _ Z (lv_sub hl [0, 1] rfl)
        · have h22 := if_p h19 c20
          clear h19
          refine lv_iload_n C.1 C.2.1 dX7_load_58 rfl (lv_at hl 1 rfl) ?_
          refine lv_aload_n C.1 C.2.1 dX7_load_59 rfl (lv_at hl 0 rfl) ?_
          refine x_get C Z 0 rfl rfl i_X7_X7_load (k := 6) (by decide) (List.mem_of_getElem? (i := 2) rfl) rfl dX7_load_60 ?_
          refine lv_iload_n C.1 C.2.1 dX7_load_63 rfl (lv_at hl 2 rfl) ?_
          have q24 := (ix_some h22).1
          have h25 := (ix_some h22).2
          clear h22
          refine x_iald C Z 5 rfl (by decide) q24 dX7_load_64 ?_
          refine x_bipush C dX7_load_65 (by decide) ?_
          have q26 := (ck_some h25).1
          have h27 := (ck_some h25).2
          clear h25
          refine x_icmp_ne (tgt := 74) C dX7_load_67 (by decide) q26 (by decide) (fun c28 => ?_) (fun c28 => ?_)
          · have h29 := if_n h27 c28
            clear h27
            refine x_iconst C dX7_load_74 ?_
            refine x_iadd C dX7_load_75 ?_
            refine lv_istore_n (lv' := [(1, .int (iI (z50.1 + 0))), (0, .ref (aM 0)), (2, .int (iI z50.2))]) C.1 C.2.1 dX7_load_76 rfl hl (by decide) rfl (fun ls hl => ?_)
            refine x_iinc (lv' := [(2, .int (iI (z50.2 + 1))), (1, .int (iI (z50.1 + 0))), (0, .ref (aM 0))]) C dX7_load_77 hl (k := 2) rfl (by decide) rfl (fun ls hl => ?_)
            refine lv_goto (tgt := 50) C.1 C.2.1 dX7_load_80 (by decide) ?_
            cases h29
            exact ih50 (z50.1 + 0, z50.2 + 1) _ _ _ (lp_L2 hx50) Z (lv_sub hl [2, 1, 0] rfl)
          · have h30 := if_p h27 c28
            clear h27
            refine x_iconst C dX7_load_70 ?_
            refine lv_goto (tgt := 75) C.1 C.2.1 dX7_load_71 (by decide) ?_
            refine x_iadd C dX7_load_75 ?_
            refine lv_istore_n (lv' := [(1, .int (iI (z50.1 + 1))), (0, .ref (aM 0)), (2, .int (iI z50.2))]) C.1 C.2.1 dX7_load_76 rfl hl (by decide) rfl (fun ls hl => ?_)
            refine x_iinc (lv' := [(2, .int (iI (z50.2 + 1))), (1, .int (iI (z50.1 + 1))), (0, .ref (aM 0))]) C dX7_load_77 hl (k := 2) rfl (by decide) rfl (fun ls hl => ?_)
            refine lv_goto (tgt := 50) C.1 C.2.1 dX7_load_80 (by decide) ?_
            cases h30
            exact ih50 (z50.1 + 1, z50.2 + 1) _ _ _ (lp_L2 hx50) Z (lv_sub hl [2, 1, 0] rfl)
    exact hL50 n (0, 0) _ _ _ hl50 Z (lv_sub hl [2, 1, 0] rfl)
  refine lv_aload_n C.1 C.2.1 dX7_load_0 rfl (lv_at hl 0 rfl) ?_
  refine x_iconst C dX7_load_1 ?_
  obtain ⟨r97, hr97, h98⟩ := bd_some hf
  clear hf
  refine x_callV_i_id (As := [.int (iI 1)]) (rest := []) (q0 := 0) C Z (k_X7_faultOf l g n aM sMv sMp sMt sMs sMc sMr 1 r97 hr97) gX7_load_X7_faultOf yk_X7_faultOf ⟨Nat.le_of_ble_eq_true rfl, Nat.le_of_ble_eq_true rfl⟩ rfl rfl ⟨Nat.zero_le _, Nat.zero_le _⟩ hl.1 rfl (Nat.le_of_ble_eq_true rfl) rfl dX7_load_2 (fun H locs Z => ?_)
  refine x_bipush C dX7_load_5 (by decide) ?_
  have q99 := (ck_some h98).1
  have h100 := (ck_some h98).2
  clear h98
  refine x_icmp_eq (tgt := 13) C dX7_load_7 (by decide) q99 (by decide) (fun c101 => ?_) (fun c101 => ?_)
  · have h102 := if_p h100 c101
    clear h100
    refine lv_aload_n C.1 C.2.1 dX7_load_13 rfl (lv_at hl 0 rfl) ?_
    refine x_get C Z 0 rfl rfl i_X7_X7_load (k := 7) (by decide) (List.mem_of_getElem? (i := 1) rfl) rfl dX7_load_14 ?_
    have q104 := (ck_some h102).1
    have h105 := (ck_some h102).2
    clear h102
    refine x_if_le (tgt := 46) C dX7_load_17 (by decide) q104 (fun c106 => ?_) (fun c106 => ?_)
    · have h107 := if_n h105 c106
      clear h105
      exact hJ46 sMv sMp _ _ _ h107 Z (lv_sub hl [0] rfl)
    · have h108 := if_p h105 c106
      clear h105
      refine lv_aload_n C.1 C.2.1 dX7_load_20 rfl (lv_at hl 0 rfl) ?_
      refine x_get C Z 0 rfl rfl i_X7_X7_load (k := 6) (by decide) (List.mem_of_getElem? (i := 2) rfl) rfl dX7_load_21 ?_
      refine x_iconst C dX7_load_24 ?_
      refine x_iald C Z 5 rfl (by decide) (by decide) dX7_load_25 ?_
      refine x_bipush C dX7_load_26 (by decide) ?_
      have q111 := (ck_some h108).1
      have h112 := (ck_some h108).2
      clear h108
      refine x_icmp_eq (tgt := 46) C dX7_load_28 (by decide) q111 (by decide) (fun c113 => ?_) (fun c113 => ?_)
      · have h114 := if_p h112 c113
        clear h112
        exact hJ46 sMv sMp _ _ _ h114 Z (lv_sub hl [0] rfl)
      · have h115 := if_n h112 c113
        clear h112
        refine lv_aload_n C.1 C.2.1 dX7_load_31 rfl (lv_at hl 0 rfl) ?_
        refine x_get C Z 0 rfl rfl i_X7_X7_load (k := 2) (by decide) (List.mem_of_getElem? (i := 3) rfl) rfl dX7_load_32 ?_
        refine lv_aload_n C.1 C.2.1 dX7_load_35 rfl (lv_at hl 0 rfl) ?_
        refine x_get C Z 0 rfl rfl i_X7_X7_load (k := 5) (by decide) (List.mem_of_getElem? (i := 4) rfl) rfl dX7_load_36 ?_
        have q116 := (ix_some h115).1
        have h117 := (ix_some h115).2
        clear h115
        refine x_iald C Z 3 rfl (by decide) q116 dX7_load_39 ?_
        have q118 := (ck_some h117).1
        have h119 := (ck_some h117).2
        clear h117
        refine x_if_ne (tgt := 46) C dX7_load_40 (by decide) q118 (fun c120 => ?_) (fun c120 => ?_)
        · have h121 := if_n h119 c120
          clear h119
          exact hJ46 sMv sMp _ _ _ h121 Z (lv_sub hl [0] rfl)
        · have h122 := if_p h119 c120
          clear h119
          refine x_bipush C dX7_load_43 (by decide) ?_
          have h123 := Option.some.inj h122
          subst h123
          exact hRet _ _ _ _ Z dX7_load_45
  · have h103 := if_n h100 c101
    clear h100
    refine x_bipush C dX7_load_10 (by decide) ?_
    have h124 := Option.some.inj h103
    subst h124
    exact hRet _ _ _ _ Z dX7_load_12
abbrev rmX7_isVersion : Room := { frames := 1, cells := 0, slots := 0, locals := 22 }
theorem yk_X7_isVersion : xY yX7_isVersion RX7 cX7_isVersion 2 (some .boolean) wsX7_isVersion rmX7_isVersion 1 := ⟨⟨_, rfl⟩, by decide +kernel, rfl, rfl⟩
theorem i_X7_X7_isVersion : ∀ w ∈ u_ws RX7 TX7 23, w ∈ wsX7_isVersion := fun _ h => List.mem_cons_of_mem _ (List.mem_append_right _ h)
set_option maxHeartbeats 4000000 in
set_option maxRecDepth 100000 in
theorem k_X7_isVersion (l : Launch) (g : xG) (n : Nat) (aM : Nat → Nat) (sMv : MvS) (sMp : MpS) (sMt : MtS) (sMs : MsS) (sMc : McS) (sMr : MrS) (v1 : Int) (r : Int) (hf : p_X7_isVersion sMv v1 = some r) : xMi l yX7_isVersion wsX7_isVersion rmX7_isVersion g [.ref (aM 0), .int (iI v1)] (wM g aM sMv sMp sMt sMs sMc sMr) (wM g aM sMv sMp sMt sMs sMc sMr) r := by
  refine x_ofW_z (own := RX7) (by decide) rfl rfl (Nat.le_of_ble_eq_true rfl) ?_
  intro p e s m args below meth c ls A QQ C hRet Z hl
  have hl : lv_has ls 2 [(0, .ref (aM 0)), (1, .int (iI v1))] := hl
  unfold p_X7_isVersion at hf
  refine lv_iload_n C.1 C.2.1 dX7_isVersion_0 rfl (lv_at hl 1 rfl) ?_
  refine x_iconst C dX7_isVersion_1 ?_
  refine lv_aload_n C.1 C.2.1 dX7_isVersion_2 rfl (lv_at hl 0 rfl) ?_
  refine x_get C Z 0 rfl rfl i_X7_X7_isVersion (k := 4) (by decide) (List.mem_of_getElem? (i := 1) rfl) rfl dX7_isVersion_3 ?_
  refine x_iconst C dX7_isVersion_6 ?_
  refine x_isub C dX7_isVersion_7 ?_
  obtain ⟨r1, hr1, h2⟩ := bd_some hf
  clear hf
  refine x_callS_i (As := [.int (iI v1), .int (iI 0), .int (iI (sMv.versions - 1))]) (rest := []) C Z (k_X7_in l g n v1 0 (sMv.versions - 1) r1 hr1) gX7_isVersion_X7_in yk_X7_in ⟨Nat.le_of_ble_eq_true rfl, Nat.le_of_ble_eq_true rfl⟩ ⟨Nat.zero_le _, Nat.zero_le _⟩ hl.1 rfl (Nat.le_of_ble_eq_true rfl) rfl dX7_isVersion_8 (fun H locs Z => ?_)
  have q3 := (bk_some h2).1
  have h4 := (bk_some h2).2
  clear h2
  have h5 := Option.some.inj h4
  subst h5
  exact hRet _ _ _ _ (x_bool q3) Z dX7_isVersion_11
abbrev rmX7_go : Room := { frames := 2, cells := 0, slots := 0, locals := 43 }
theorem yk_X7_go : xY yX7_go RX7 cX7_go 3 (some .int) wsX7_go rmX7_go 1 := ⟨⟨_, rfl⟩, by decide +kernel, rfl, rfl⟩
theorem i_X7_X7_go : ∀ w ∈ u_ws RX7 TX7 23, w ∈ wsX7_go := fun _ h => List.mem_cons_of_mem _ (List.mem_append_right _ h)
set_option maxHeartbeats 4000000 in
set_option maxRecDepth 100000 in
theorem k_X7_go (l : Launch) (g : xG) (n : Nat) (aM : Nat → Nat) (sMv : MvS) (sMp : MpS) (sMt : MtS) (sMs : MsS) (sMc : McS) (sMr : MrS) (v1 : Int) (r : Int × MvS) (hf : p_X7_go sMv v1 = some r) : xMi l yX7_go wsX7_go rmX7_go g [.ref (aM 0), .int (iI v1)] (wM g aM sMv sMp sMt sMs sMc sMr) (wM g aM r.2 sMp sMt sMs sMc sMr) r.1 := by
  refine x_ofW_i (own := RX7) (by decide) rfl rfl (Nat.le_of_ble_eq_true rfl) ?_
  intro p e s m args below meth c ls A QQ C hRet Z hl
  have hl : lv_has ls 3 [(0, .ref (aM 0)), (1, .int (iI v1))] := hl
  unfold p_X7_go at hf
  refine lv_aload_n C.1 C.2.1 dX7_go_0 rfl (lv_at hl 0 rfl) ?_
  refine lv_iload_n C.1 C.2.1 dX7_go_1 rfl (lv_at hl 1 rfl) ?_
  obtain ⟨r1, hr1, h2⟩ := bd_some hf
  clear hf
  refine x_callV_i_id (As := [.int (iI v1)]) (rest := []) (q0 := 0) C Z (k_X7_isVersion l g n aM sMv sMp sMt sMs sMc sMr v1 r1 hr1) gX7_go_X7_isVersion yk_X7_isVersion ⟨Nat.le_of_ble_eq_true rfl, Nat.le_of_ble_eq_true rfl⟩ rfl rfl ⟨Nat.zero_le _, Nat.zero_le _⟩ hl.1 rfl (Nat.le_of_ble_eq_true rfl) rfl dX7_go_2 (fun H locs Z => ?_)
  have q3 := (ck_some h2).1
  have h4 := (ck_some h2).2
  clear h2
  refine x_if_ne (tgt := 10) C dX7_go_5 (by decide) q3 (fun c5 => ?_) (fun c5 => ?_)
  · have h6 := if_n h4 c5
    clear h4
    refine lv_aload_n C.1 C.2.1 dX7_go_10 rfl (lv_at hl 0 rfl) ?_
    refine x_get C Z 0 rfl rfl i_X7_X7_go (k := 5) (by decide) (List.mem_of_getElem? (i := 1) rfl) rfl dX7_go_11 ?_
    refine lv_istore_n (lv' := [(2, .int (iI sMv.present)), (0, .ref (aM 0)), (1, .int (iI v1))]) C.1 C.2.1 dX7_go_14 rfl hl (by decide) rfl (fun ls hl => ?_)
    refine lv_aload_n C.1 C.2.1 dX7_go_15 rfl (lv_at hl 1 rfl) ?_
    refine lv_iload_n C.1 C.2.1 dX7_go_16 rfl (lv_at hl 2 rfl) ?_
    refine x_put (ws2 := wM g aM (sMv.parent, sMv.added, sMv.wordMany, sMv.letterMany, sMv.versions, v1) sMp sMt sMs sMc sMr) C Z 0 rfl rfl i_X7_X7_go tyX7_ok nmX7 (k := 5) (by decide) (List.mem_of_getElem? (i := 1) rfl) rfl rfl (Nat.le_of_ble_eq_true rfl) dX7_go_17 rfl (fun H locs Z => ?_)
    refine lv_iload_n C.1 C.2.1 dX7_go_20 rfl (lv_at hl 0 rfl) ?_
    have h8 := Option.some.inj h6
    subst h8
    exact hRet _ _ _ _ Z dX7_go_21
  · have h7 := if_p h4 c5
    clear h4
    refine x_iconst C dX7_go_8 ?_
    have h9 := Option.some.inj h7
    subst h9
    exact hRet _ _ _ _ Z dX7_go_9
abbrev rmX7_back : Room := { frames := 1, cells := 0, slots := 0, locals := 22 }
theorem yk_X7_back : xY yX7_back RX7 cX7_back 4 (some .int) wsX7_back rmX7_back 1 := ⟨⟨_, rfl⟩, by decide +kernel, rfl, rfl⟩
theorem i_X7_X7_back : ∀ w ∈ u_ws RX7 TX7 23, w ∈ wsX7_back := fun _ h => List.mem_cons_of_mem _ (List.mem_append_right _ h)
set_option maxHeartbeats 4000000 in
set_option maxRecDepth 100000 in
theorem k_X7_back (l : Launch) (g : xG) (n : Nat) (aM : Nat → Nat) (sMv : MvS) (sMp : MpS) (sMt : MtS) (sMs : MsS) (sMc : McS) (sMr : MrS) (v1 : Int) (r : Int × MvS) (hf : p_X7_back n sMv v1 = some r) : xMi l yX7_back wsX7_back rmX7_back g [.ref (aM 0), .int (iI v1)] (wM g aM sMv sMp sMt sMs sMc sMr) (wM g aM r.2 sMp sMt sMs sMc sMr) r.1 := by
  refine x_ofW_i (own := RX7) (by decide) rfl rfl (Nat.le_of_ble_eq_true rfl) ?_
  intro p e s m args below meth c ls A QQ C hRet Z hl
  have hl : lv_has ls 4 [(0, .ref (aM 0)), (1, .int (iI v1))] := hl
  unfold p_X7_back at hf
  refine lv_iload_n C.1 C.2.1 dX7_back_0 rfl (lv_at hl 1 rfl) ?_
  refine x_iconst C dX7_back_1 ?_
  refine x_sipush C dX7_back_2 (by decide) ?_
  obtain ⟨r1, hr1, h2⟩ := bd_some hf
  clear hf
  refine x_callS_i (As := [.int (iI v1), .int (iI 0), .int (iI 400)]) (rest := []) C Z (k_X7_in l g n v1 0 400 r1 hr1) gX7_back_X7_in yk_X7_in ⟨Nat.le_of_ble_eq_true rfl, Nat.le_of_ble_eq_true rfl⟩ ⟨Nat.zero_le _, Nat.zero_le _⟩ hl.1 rfl (Nat.le_of_ble_eq_true rfl) rfl dX7_back_5 (fun H locs Z => ?_)
  have q3 := (ck_some h2).1
  have h4 := (ck_some h2).2
  clear h2
  refine x_if_ne (tgt := 14) C dX7_back_8 (by decide) q3 (fun c5 => ?_) (fun c5 => ?_)
  · have h6 := if_n h4 c5
    clear h4
    refine lv_aload_n C.1 C.2.1 dX7_back_14 rfl (lv_at hl 0 rfl) ?_
    refine x_get C Z 0 rfl rfl i_X7_X7_back (k := 5) (by decide) (List.mem_of_getElem? (i := 1) rfl) rfl dX7_back_15 ?_
    refine lv_istore_n (lv' := [(2, .int (iI sMv.present)), (0, .ref (aM 0)), (1, .int (iI v1))]) C.1 C.2.1 dX7_back_18 rfl hl (by decide) rfl (fun ls hl => ?_)
    refine x_iconst C dX7_back_19 ?_
    refine lv_istore_n (lv' := [(3, .int (iI 0)), (2, .int (iI sMv.present)), (0, .ref (aM 0)), (1, .int (iI v1))]) C.1 C.2.1 dX7_back_20 rfl hl (by decide) rfl (fun ls hl => ?_)
    obtain ⟨ex21, hl21, h40⟩ := bd_some h6
    clear h6
    have hK21 : ∀ (H : Heap) (locs : List Loc) (ls : Array Slot), xSt g A s (wM g aM sMv sMp sMt sMs sMc sMr) H locs → lv_has ls 4 [(0, .ref (aM 0)), (2, .int (iI ex21))] → W p l e rmX7_back s m args below meth c H locs 0 0 QQ (F0 m 43 ls []) := by
      intro H locs ls Z hl
      have h41 := h40
      clear h40
      refine lv_iload_n C.1 C.2.1 dX7_back_43 rfl (lv_at hl 1 rfl) ?_
      have q42 := (ck_some h41).1
      have h43 := (ck_some h41).2
      clear h41
      refine x_if_ge (tgt := 50) C dX7_back_44 (by decide) q42 (fun c44 => ?_) (fun c44 => ?_)
      · have h45 := if_n h43 c44
        clear h43
        refine lv_aload_n C.1 C.2.1 dX7_back_50 rfl (lv_at hl 0 rfl) ?_
        refine lv_iload_n C.1 C.2.1 dX7_back_51 rfl (lv_at hl 1 rfl) ?_
        refine x_put (ws2 := wM g aM (sMv.parent, sMv.added, sMv.wordMany, sMv.letterMany, sMv.versions, ex21) sMp sMt sMs sMc sMr) C Z 0 rfl rfl i_X7_X7_back tyX7_ok nmX7 (k := 5) (by decide) (List.mem_of_getElem? (i := 1) rfl) rfl rfl (Nat.le_of_ble_eq_true rfl) dX7_back_52 rfl (fun H locs Z => ?_)
        refine lv_iload_n C.1 C.2.1 dX7_back_55 rfl (lv_at hl 1 rfl) ?_
        have h47 := Option.some.inj h45
        subst h47
        exact hRet _ _ _ _ Z dX7_back_56
      · have h46 := if_p h43 c44
        clear h43
        refine x_bipush C dX7_back_47 (by decide) ?_
        have h48 := Option.some.inj h46
        subst h48
        exact hRet _ _ _ _ Z dX7_back_49
    have hL21 : ∀ (k21 : Nat) (z21 : Int × Int) (H : Heap) (locs : List Loc) (ls : Array Slot), lp (p_X7_back_b21 n sMv v1) k21 z21 = some ex21 → xSt g A s (wM g aM sMv sMp sMt sMs sMc sMr) H locs → lv_has ls 4 [(0, .ref (aM 0)), (1, .int (iI v1)), (2, .int (iI z21.1)), (3, .int (iI z21.2))] → W p l e rmX7_back s m args below meth c H locs 0 0 QQ (F0 m 21 ls []) := by
      intro k21
      induction k21 with
      | zero => intro z21 H locs ls h; exact (lp_0 h).elim
      | succ k21 ih21 =>
        intro z21 H locs ls h Z hl
        obtain ⟨x21, hb21, hx21⟩ := lp_s h
        clear h
        unfold p_X7_back_b21 at hb21
        refine lv_iload_n C.1 C.2.1 dX7_back_21 rfl (lv_at hl 3 rfl) ?_
        refine lv_iload_n C.1 C.2.1 dX7_back_22 rfl (lv_at hl 1 rfl) ?_
        have q24 := (ck_some hb21).1
        have h25 := (ck_some hb21).2
        clear hb21
        have q26 := (ck_some h25).1
        have h27 := (ck_some h25).2
        clear h25
        refine x_icmp_ge (tgt := 43) C dX7_back_23 (by decide) q24 q26 (fun c28 => ?_) (fun c28 => ?_)
        · have h29 := if_n h27 c28
          clear h27
          cases h29
          have h31 := lp_R hx21
          subst h31
          exact hK21 _ _ _ Z (lv_sub hl [0, 2] rfl)
        · have h30 := if_p h27 c28
          clear h27
          refine lv_iload_n C.1 C.2.1 dX7_back_26 rfl (lv_at hl 2 rfl) ?_
          have q32 := (ck_some h30).1
          have h33 := (ck_some h30).2
          clear h30
          refine x_if_lt (tgt := 43) C dX7_back_27 (by decide) q32 (fun c34 => ?_) (fun c34 => ?_)
          · have h35 := if_p h33 c34
            clear h33
            cases h35
            have h37 := lp_R hx21
            subst h37
            exact hK21 _ _ _ Z (lv_sub hl [0, 2] rfl)
          · have h36 := if_n h33 c34
            clear h33
            refine lv_aload_n C.1 C.2.1 dX7_back_30 rfl (lv_at hl 0 rfl) ?_
            refine x_get C Z 0 rfl rfl i_X7_X7_back (k := 0) (by decide) (List.mem_of_getElem? (i := 2) rfl) rfl dX7_back_31 ?_
            refine lv_iload_n C.1 C.2.1 dX7_back_34 rfl (lv_at hl 2 rfl) ?_
            have q38 := (ix_some h36).1
            have h39 := (ix_some h36).2
            clear h36
            refine x_iald C Z 1 rfl (by decide) q38 dX7_back_35 ?_
            refine lv_istore_n (lv' := [(2, .int (iI (sMv.parent z21.1))), (0, .ref (aM 0)), (1, .int (iI v1)), (3, .int (iI z21.2))]) C.1 C.2.1 dX7_back_36 rfl hl (by decide) rfl (fun ls hl => ?_)
            refine x_iinc (lv' := [(3, .int (iI (z21.2 + 1))), (2, .int (iI (sMv.parent z21.1))), (0, .ref (aM 0)), (1, .int (iI v1))]) C dX7_back_37 hl (k := 3) rfl (by decide) rfl (fun ls hl => ?_)
            refine lv_goto (tgt := 21) C.1 C.2.1 dX7_back_40 (by decide) ?_
            cases h39
            exact ih21 (sMv.parent z21.1, z21.2 + 1) _ _ _ (lp_L2 hx21) Z (lv_sub hl [2, 3, 1, 0] rfl)
    exact hL21 n (sMv.present, 0) _ _ _ hl21 Z (lv_sub hl [2, 3, 1, 0] rfl)
  · have h7 := if_p h4 c5
    clear h4
    refine x_bipush C dX7_back_11 (by decide) ?_
    have h49 := Option.some.inj h7
    subst h49
    exact hRet _ _ _ _ Z dX7_back_13
abbrev rmX7_lay : Room := { frames := 0, cells := 0, slots := 0, locals := 0 }
theorem yk_X7_lay : xY yX7_lay RX7 cX7_lay 6 none wsX7_lay rmX7_lay 2 := ⟨⟨_, rfl⟩, by decide +kernel, rfl, rfl⟩
theorem i_X7_X7_lay : ∀ w ∈ u_ws RX7 TX7 23, w ∈ wsX7_lay := fun _ h => List.mem_cons_of_mem _ (List.mem_append_right _ h)
set_option maxHeartbeats 4000000 in
set_option maxRecDepth 100000 in
theorem k_X7_lay (l : Launch) (g : xG) (n : Nat) (aM : Nat → Nat) (sMv : MvS) (sMp : MpS) (sMt : MtS) (sMs : MsS) (sMc : McS) (sMr : MrS) (v1 : Int) (v2 : Int) (r : MtS) (hf : p_X7_lay n sMv sMt v1 v2 = some r) : xMv l yX7_lay wsX7_lay rmX7_lay g [.ref (aM 0), .int (iI v1), .int (iI v2)] (wM g aM sMv sMp sMt sMs sMc sMr) (wM g aM sMv sMp r sMs sMc sMr) := by
  refine x_ofW_v (own := RX7) (by decide) rfl rfl (Nat.le_of_ble_eq_true rfl) ?_
  intro p e s m args below meth c ls A QQ C hRet Z hl
  have hl : lv_has ls 6 [(0, .ref (aM 0)), (1, .int (iI v1)), (2, .int (iI v2))] := hl
  unfold p_X7_lay at hf
  refine x_iconst C dX7_lay_0 ?_
  refine lv_istore_n (lv' := [(3, .int (iI 0)), (0, .ref (aM 0)), (1, .int (iI v1)), (2, .int (iI v2))]) C.1 C.2.1 dX7_lay_1 rfl hl (by decide) rfl (fun ls hl => ?_)
  refine lv_iload_n C.1 C.2.1 dX7_lay_2 rfl (lv_at hl 3 rfl) ?_
  refine lv_istore (lv' := [(4, .int (iI v2)), (3, .int (iI 0)), (0, .ref (aM 0)), (1, .int (iI v1)), (2, .int (iI v2))]) C.1 C.2.1 dX7_lay_3 hl (by decide) rfl (fun ls hl => ?_)
  obtain ⟨ex5, hl5, h25⟩ := bd_some hf
  clear hf
  have hK5 : ∀ (H : Heap) (locs : List Loc) (ls : Array Slot), xSt g A s (wM g aM sMv sMp (sMt.text, sMt.wordOf, sMt.start, sMt.stop, sMt.many, sMt.words, ex5.2) sMs sMc sMr) H locs → lv_has ls 6 [(0, .ref (aM 0)), (1, .int (iI v1)), (3, .int (iI ex5.1))] → W p l e rmX7_lay s m args below meth c H locs 0 0 QQ (F0 m 38 ls []) := by
    intro H locs ls Z hl
    have h26 := h25
    clear h25
    refine lv_aload_n C.1 C.2.1 dX7_lay_38 rfl (lv_at hl 0 rfl) ?_
    refine x_get C Z 0 rfl rfl i_X7_X7_lay (k := 12) (by decide) (List.mem_of_getElem? (i := 4) rfl) rfl dX7_lay_39 ?_
    refine lv_iload_n C.1 C.2.1 dX7_lay_42 rfl (lv_at hl 1 rfl) ?_
    refine x_iconst C dX7_lay_43 ?_
    have q27 := (ix_some h26).1
    have h28 := (ix_some h26).2
    clear h26
    refine x_iast (ws2 := wM g aM sMv sMp (sMt.text, sMt.wordOf, sMt.start, sMt.stop, up sMt.many v1 0, sMt.words, ex5.2) sMs sMc sMr) C Z 10 rfl (by decide) q27 dX7_lay_44 rfl (fun H locs Z => ?_)
    refine lv_aload_n C.1 C.2.1 dX7_lay_45 rfl (lv_at hl 0 rfl) ?_
    refine x_get C Z 0 rfl rfl i_X7_X7_lay (k := 13) (by decide) (List.mem_of_getElem? (i := 5) rfl) rfl dX7_lay_46 ?_
    refine lv_iload_n C.1 C.2.1 dX7_lay_49 rfl (lv_at hl 1 rfl) ?_
    refine x_iconst C dX7_lay_50 ?_
    refine x_iast (ws2 := wM g aM sMv sMp (sMt.text, sMt.wordOf, sMt.start, sMt.stop, up sMt.many v1 0, up sMt.words v1 0, ex5.2) sMs sMc sMr) C Z 11 rfl (by decide) q27 dX7_lay_51 rfl (fun H locs Z => ?_)
    refine lv_iload_n C.1 C.2.1 dX7_lay_52 rfl (lv_at hl 2 rfl) ?_
    refine x_iconst C dX7_lay_53 ?_
    refine x_isub C dX7_lay_54 ?_
    refine lv_istore (lv' := [(4, .int (iI (ex5.1 - 1))), (0, .ref (aM 0)), (1, .int (iI v1)), (3, .int (iI ex5.1))]) C.1 C.2.1 dX7_lay_55 hl (by decide) rfl (fun ls hl => ?_)
    obtain ⟨ex57, hl57, h107⟩ := bd_some h28
    clear h28
    have hK57 : ∀ (H : Heap) (locs : List Loc) (ls : Array Slot), xSt g A s (wM g aM sMv sMp (ex57.1, ex57.2.1, ex57.2.2.1, ex57.2.2.2.1, ex57.2.2.2.2.1, ex57.2.2.2.2.2, ex5.2) sMs sMc sMr) H locs → lv_has ls 6 [] → W p l e rmX7_lay s m args below meth c H locs 0 0 QQ (F0 m 203 ls []) := by
      intro H locs ls Z hl
      have h108 := h107
      clear h107
      have h109 := Option.some.inj h108
      subst h109
      exact hRet _ _ _ _ Z dX7_lay_203
    have hL57 : ∀ (k57 : Nat) (z57 : Int × Row × Row × Row × Row × Row × Row) (H : Heap) (locs : List Loc) (ls : Array Slot), lp (p_X7_lay_b57 n (sMt.text, sMt.wordOf, sMt.start, sMt.stop, up sMt.many v1 0, up sMt.words v1 0, ex5.2) v1) k57 z57 = some ex57 → xSt g A s (wM g aM sMv sMp (z57.2.1, z57.2.2.1, z57.2.2.2.1, z57.2.2.2.2.1, z57.2.2.2.2.2.1, z57.2.2.2.2.2.2, ex5.2) sMs sMc sMr) H locs → lv_has ls 6 [(0, .ref (aM 0)), (1, .int (iI v1)), (4, .int (iI z57.1))] → W p l e rmX7_lay s m args below meth c H locs 0 0 QQ (F0 m 57 ls []) := by
      intro k57
      induction k57 with
      | zero => intro z57 H locs ls h; exact (lp_0 h).elim
      | succ k57 ih57 =>
        intro z57 H locs ls h Z hl
        obtain ⟨x57, hb57, hx57⟩ := lp_s h
        clear h
        unfold p_X7_lay_b57 at hb57
        refine lv_iload C.1 C.2.1 dX7_lay_57 (lv_at hl 2 rfl) ?_
        have q68 := (ck_some hb57).1
        have h69 := (ck_some hb57).2
        clear hb57
        refine x_if_lt (tgt := 203) C dX7_lay_59 (by decide) q68 (fun c70 => ?_) (fun c70 => ?_)
        · have h71 := if_p h69 c70
          clear h69
          cases h71
          have h73 := lp_R hx57
          subst h73
          exact hK57 _ _ _ Z (lv_sub hl [] rfl)
        · have h72 := if_n h69 c70
          clear h69
          refine x_bipush C dX7_lay_62 (by decide) ?_
          refine lv_iload_n C.1 C.2.1 dX7_lay_64 rfl (lv_at hl 1 rfl) ?_
          refine x_imul C dX7_lay_65 ?_
          refine lv_aload_n C.1 C.2.1 dX7_lay_66 rfl (lv_at hl 0 rfl) ?_
          refine x_get C Z 0 rfl rfl i_X7_X7_lay (k := 13) (by decide) (List.mem_of_getElem? (i := 5) rfl) rfl dX7_lay_67 ?_
          refine lv_iload_n C.1 C.2.1 dX7_lay_70 rfl (lv_at hl 1 rfl) ?_
          have q74 := (ix_some h72).1
          have h75 := (ix_some h72).2
          clear h72
          refine x_iald C Z 11 rfl (by decide) q74 dX7_lay_71 ?_
          refine x_iadd C dX7_lay_72 ?_
          refine lv_istore (lv' := [(5, .int (iI ((6 * v1) + (z57.2.2.2.2.2.2 v1)))), (0, .ref (aM 0)), (1, .int (iI v1)), (4, .int (iI z57.1))]) C.1 C.2.1 dX7_lay_73 hl (by decide) rfl (fun ls hl => ?_)
          refine lv_aload_n C.1 C.2.1 dX7_lay_75 rfl (lv_at hl 1 rfl) ?_
          refine x_get C Z 0 rfl rfl i_X7_X7_lay (k := 14) (by decide) (List.mem_of_getElem? (i := 1) rfl) rfl dX7_lay_76 ?_
          refine lv_iload C.1 C.2.1 dX7_lay_79 (lv_at hl 3 rfl) ?_
          have q76 := (ix_some h75).1
          have h77 := (ix_some h75).2
          clear h75
          refine x_iald C Z 12 rfl (by decide) q76 dX7_lay_81 ?_
          refine x_iconst C dX7_lay_82 ?_
          have q78 := (ck_some h77).1
          have h79 := (ck_some h77).2
          clear h77
          refine x_icmp_ne (tgt := 125) C dX7_lay_83 (by decide) q78 (by decide) (fun c80 => ?_) (fun c80 => ?_)
          · have h81 := if_n h79 c80
            clear h79
            refine lv_aload_n C.1 C.2.1 dX7_lay_125 rfl (lv_at hl 1 rfl) ?_
            refine x_get C Z 0 rfl rfl i_X7_X7_lay (k := 8) (by decide) (List.mem_of_getElem? (i := 8) rfl) rfl dX7_lay_126 ?_
            refine x_bipush C dX7_lay_129 (by decide) ?_
            refine lv_iload_n C.1 C.2.1 dX7_lay_131 rfl (lv_at hl 2 rfl) ?_
            refine x_imul C dX7_lay_132 ?_
            refine lv_aload_n C.1 C.2.1 dX7_lay_133 rfl (lv_at hl 1 rfl) ?_
            refine x_get C Z 0 rfl rfl i_X7_X7_lay (k := 12) (by decide) (List.mem_of_getElem? (i := 4) rfl) rfl dX7_lay_134 ?_
            refine lv_iload_n C.1 C.2.1 dX7_lay_137 rfl (lv_at hl 2 rfl) ?_
            refine x_iald C Z 10 rfl (by decide) q74 dX7_lay_138 ?_
            refine x_iadd C dX7_lay_139 ?_
            refine lv_aload_n C.1 C.2.1 dX7_lay_140 rfl (lv_at hl 1 rfl) ?_
            refine x_get C Z 0 rfl rfl i_X7_X7_lay (k := 14) (by decide) (List.mem_of_getElem? (i := 1) rfl) rfl dX7_lay_141 ?_
            refine lv_iload C.1 C.2.1 dX7_lay_144 (lv_at hl 3 rfl) ?_
            refine x_iald C Z 12 rfl (by decide) q76 dX7_lay_146 ?_
            have q87 := (ix_some h81).1
            have h88 := (ix_some h81).2
            clear h81
            refine x_iast (ws2 := wM g aM sMv sMp (up z57.2.1 ((60 * v1) + (z57.2.2.2.2.2.1 v1)) (ex5.2 z57.1), z57.2.2.1, z57.2.2.2.1, z57.2.2.2.2.1, z57.2.2.2.2.2.1, z57.2.2.2.2.2.2, ex5.2) sMs sMc sMr) C Z 6 rfl (by decide) q87 dX7_lay_147 rfl (fun H locs Z => ?_)
            refine lv_aload_n C.1 C.2.1 dX7_lay_148 rfl (lv_at hl 1 rfl) ?_
            refine x_get C Z 0 rfl rfl i_X7_X7_lay (k := 9) (by decide) (List.mem_of_getElem? (i := 9) rfl) rfl dX7_lay_149 ?_
            refine x_bipush C dX7_lay_152 (by decide) ?_
            refine lv_iload_n C.1 C.2.1 dX7_lay_154 rfl (lv_at hl 2 rfl) ?_
            refine x_imul C dX7_lay_155 ?_
            refine lv_aload_n C.1 C.2.1 dX7_lay_156 rfl (lv_at hl 1 rfl) ?_
            refine x_get C Z 0 rfl rfl i_X7_X7_lay (k := 12) (by decide) (List.mem_of_getElem? (i := 4) rfl) rfl dX7_lay_157 ?_
            refine lv_iload_n C.1 C.2.1 dX7_lay_160 rfl (lv_at hl 2 rfl) ?_
            refine x_iald C Z 10 rfl (by decide) q74 dX7_lay_161 ?_
            refine x_iadd C dX7_lay_162 ?_
            refine lv_aload_n C.1 C.2.1 dX7_lay_163 rfl (lv_at hl 1 rfl) ?_
            refine x_get C Z 0 rfl rfl i_X7_X7_lay (k := 13) (by decide) (List.mem_of_getElem? (i := 5) rfl) rfl dX7_lay_164 ?_
            refine lv_iload_n C.1 C.2.1 dX7_lay_167 rfl (lv_at hl 2 rfl) ?_
            refine x_iald C Z 11 rfl (by decide) q74 dX7_lay_168 ?_
            refine x_iconst C dX7_lay_169 ?_
            refine x_isub C dX7_lay_170 ?_
            refine x_iast (ws2 := wM g aM sMv sMp (up z57.2.1 ((60 * v1) + (z57.2.2.2.2.2.1 v1)) (ex5.2 z57.1), up z57.2.2.1 ((60 * v1) + (z57.2.2.2.2.2.1 v1)) ((z57.2.2.2.2.2.2 v1) - 1), z57.2.2.2.1, z57.2.2.2.2.1, z57.2.2.2.2.2.1, z57.2.2.2.2.2.2, ex5.2) sMs sMc sMr) C Z 7 rfl (by decide) q87 dX7_lay_171 rfl (fun H locs Z => ?_)
            refine lv_aload_n C.1 C.2.1 dX7_lay_172 rfl (lv_at hl 1 rfl) ?_
            refine x_get C Z 0 rfl rfl i_X7_X7_lay (k := 12) (by decide) (List.mem_of_getElem? (i := 4) rfl) rfl dX7_lay_173 ?_
            refine lv_iload_n C.1 C.2.1 dX7_lay_176 rfl (lv_at hl 2 rfl) ?_
            refine lv_dup2_11 C.1 C.2.1 dX7_lay_177 rfl rfl ?_
            refine x_iald C Z 10 rfl (by decide) q74 dX7_lay_178 ?_
            refine x_iconst C dX7_lay_179 ?_
            refine x_iadd C dX7_lay_180 ?_
            refine x_iast (ws2 := wM g aM sMv sMp (up z57.2.1 ((60 * v1) + (z57.2.2.2.2.2.1 v1)) (ex5.2 z57.1), up z57.2.2.1 ((60 * v1) + (z57.2.2.2.2.2.1 v1)) ((z57.2.2.2.2.2.2 v1) - 1), z57.2.2.2.1, z57.2.2.2.2.1, up z57.2.2.2.2.2.1 v1 ((z57.2.2.2.2.2.1 v1) + 1), z57.2.2.2.2.2.2, ex5.2) sMs sMc sMr) C Z 10 rfl (by decide) q74 dX7_lay_181 rfl (fun H locs Z => ?_)
            refine lv_aload_n C.1 C.2.1 dX7_lay_182 rfl (lv_at hl 1 rfl) ?_
            refine x_get C Z 0 rfl rfl i_X7_X7_lay (k := 11) (by decide) (List.mem_of_getElem? (i := 7) rfl) rfl dX7_lay_183 ?_
            refine lv_iload C.1 C.2.1 dX7_lay_186 (lv_at hl 0 rfl) ?_
            refine x_iconst C dX7_lay_188 ?_
            refine x_isub C dX7_lay_189 ?_
            refine lv_aload_n C.1 C.2.1 dX7_lay_190 rfl (lv_at hl 1 rfl) ?_
            refine x_get C Z 0 rfl rfl i_X7_X7_lay (k := 12) (by decide) (List.mem_of_getElem? (i := 4) rfl) rfl dX7_lay_191 ?_
            refine lv_iload_n C.1 C.2.1 dX7_lay_194 rfl (lv_at hl 2 rfl) ?_
            refine x_iald C Z 10 rfl (by decide) q74 dX7_lay_195 ?_
            have q97 := (ix_some h88).1
            have h98 := (ix_some h88).2
            clear h88
            refine x_iast (ws2 := wM g aM sMv sMp (up z57.2.1 ((60 * v1) + (z57.2.2.2.2.2.1 v1)) (ex5.2 z57.1), up z57.2.2.1 ((60 * v1) + (z57.2.2.2.2.2.1 v1)) ((z57.2.2.2.2.2.2 v1) - 1), z57.2.2.2.1, up z57.2.2.2.2.1 (((6 * v1) + (z57.2.2.2.2.2.2 v1)) - 1) ((up z57.2.2.2.2.2.1 v1 ((z57.2.2.2.2.2.1 v1) + 1)) v1), up z57.2.2.2.2.2.1 v1 ((z57.2.2.2.2.2.1 v1) + 1), z57.2.2.2.2.2.2, ex5.2) sMs sMc sMr) C Z 9 rfl (by decide) q97 dX7_lay_196 rfl (fun H locs Z => ?_)
            refine x_iinc (lv' := [(4, .int (iI (z57.1 + (-1)))), (5, .int (iI ((6 * v1) + (z57.2.2.2.2.2.2 v1)))), (0, .ref (aM 0)), (1, .int (iI v1))]) C dX7_lay_197 hl (k := 3) rfl (by decide) rfl (fun ls hl => ?_)
            refine lv_goto (tgt := 57) C.1 C.2.1 dX7_lay_200 (by decide) ?_
            cases h98
            exact ih57 (z57.1 + (-1), up z57.2.1 ((60 * v1) + (z57.2.2.2.2.2.1 v1)) (ex5.2 z57.1), up z57.2.2.1 ((60 * v1) + (z57.2.2.2.2.2.1 v1)) ((z57.2.2.2.2.2.2 v1) - 1), z57.2.2.2.1, up z57.2.2.2.2.1 (((6 * v1) + (z57.2.2.2.2.2.2 v1)) - 1) ((up z57.2.2.2.2.2.1 v1 ((z57.2.2.2.2.2.1 v1) + 1)) v1), up z57.2.2.2.2.2.1 v1 ((z57.2.2.2.2.2.1 v1) + 1), z57.2.2.2.2.2.2) _ _ _ (lp_L2 hx57) Z (lv_sub hl [2, 3, 0] rfl)
          · have h82 := if_p h79 c80
            clear h79
            refine lv_aload_n C.1 C.2.1 dX7_lay_86 rfl (lv_at hl 1 rfl) ?_
            refine x_get C Z 0 rfl rfl i_X7_X7_lay (k := 10) (by decide) (List.mem_of_getElem? (i := 6) rfl) rfl dX7_lay_87 ?_
            refine lv_iload C.1 C.2.1 dX7_lay_90 (lv_at hl 0 rfl) ?_
            refine lv_aload_n C.1 C.2.1 dX7_lay_92 rfl (lv_at hl 1 rfl) ?_
            refine x_get C Z 0 rfl rfl i_X7_X7_lay (k := 12) (by decide) (List.mem_of_getElem? (i := 4) rfl) rfl dX7_lay_93 ?_
            refine lv_iload_n C.1 C.2.1 dX7_lay_96 rfl (lv_at hl 2 rfl) ?_
            refine x_iald C Z 10 rfl (by decide) q74 dX7_lay_97 ?_
            have q101 := (ix_some h82).1
            have h102 := (ix_some h82).2
            clear h82
            refine x_iast (ws2 := wM g aM sMv sMp (z57.2.1, z57.2.2.1, up z57.2.2.2.1 ((6 * v1) + (z57.2.2.2.2.2.2 v1)) (z57.2.2.2.2.2.1 v1), z57.2.2.2.2.1, z57.2.2.2.2.2.1, z57.2.2.2.2.2.2, ex5.2) sMs sMc sMr) C Z 8 rfl (by decide) q101 dX7_lay_98 rfl (fun H locs Z => ?_)
            refine lv_aload_n C.1 C.2.1 dX7_lay_99 rfl (lv_at hl 1 rfl) ?_
            refine x_get C Z 0 rfl rfl i_X7_X7_lay (k := 11) (by decide) (List.mem_of_getElem? (i := 7) rfl) rfl dX7_lay_100 ?_
            refine lv_iload C.1 C.2.1 dX7_lay_103 (lv_at hl 0 rfl) ?_
            refine lv_aload_n C.1 C.2.1 dX7_lay_105 rfl (lv_at hl 1 rfl) ?_
            refine x_get C Z 0 rfl rfl i_X7_X7_lay (k := 12) (by decide) (List.mem_of_getElem? (i := 4) rfl) rfl dX7_lay_106 ?_
            refine lv_iload_n C.1 C.2.1 dX7_lay_109 rfl (lv_at hl 2 rfl) ?_
            refine x_iald C Z 10 rfl (by decide) q74 dX7_lay_110 ?_
            refine x_iast (ws2 := wM g aM sMv sMp (z57.2.1, z57.2.2.1, up z57.2.2.2.1 ((6 * v1) + (z57.2.2.2.2.2.2 v1)) (z57.2.2.2.2.2.1 v1), up z57.2.2.2.2.1 ((6 * v1) + (z57.2.2.2.2.2.2 v1)) (z57.2.2.2.2.2.1 v1), z57.2.2.2.2.2.1, z57.2.2.2.2.2.2, ex5.2) sMs sMc sMr) C Z 9 rfl (by decide) q101 dX7_lay_111 rfl (fun H locs Z => ?_)
            refine lv_aload_n C.1 C.2.1 dX7_lay_112 rfl (lv_at hl 1 rfl) ?_
            refine x_get C Z 0 rfl rfl i_X7_X7_lay (k := 13) (by decide) (List.mem_of_getElem? (i := 5) rfl) rfl dX7_lay_113 ?_
            refine lv_iload_n C.1 C.2.1 dX7_lay_116 rfl (lv_at hl 2 rfl) ?_
            refine lv_dup2_11 C.1 C.2.1 dX7_lay_117 rfl rfl ?_
            refine x_iald C Z 11 rfl (by decide) q74 dX7_lay_118 ?_
            refine x_iconst C dX7_lay_119 ?_
            refine x_iadd C dX7_lay_120 ?_
            refine x_iast (ws2 := wM g aM sMv sMp (z57.2.1, z57.2.2.1, up z57.2.2.2.1 ((6 * v1) + (z57.2.2.2.2.2.2 v1)) (z57.2.2.2.2.2.1 v1), up z57.2.2.2.2.1 ((6 * v1) + (z57.2.2.2.2.2.2 v1)) (z57.2.2.2.2.2.1 v1), z57.2.2.2.2.2.1, up z57.2.2.2.2.2.2 v1 ((z57.2.2.2.2.2.2 v1) + 1), ex5.2) sMs sMc sMr) C Z 11 rfl (by decide) q74 dX7_lay_121 rfl (fun H locs Z => ?_)
            refine lv_goto (tgt := 197) C.1 C.2.1 dX7_lay_122 (by decide) ?_
            refine x_iinc (lv' := [(4, .int (iI (z57.1 + (-1)))), (5, .int (iI ((6 * v1) + (z57.2.2.2.2.2.2 v1)))), (0, .ref (aM 0)), (1, .int (iI v1))]) C dX7_lay_197 hl (k := 3) rfl (by decide) rfl (fun ls hl => ?_)
            refine lv_goto (tgt := 57) C.1 C.2.1 dX7_lay_200 (by decide) ?_
            cases h102
            exact ih57 (z57.1 + (-1), z57.2.1, z57.2.2.1, up z57.2.2.2.1 ((6 * v1) + (z57.2.2.2.2.2.2 v1)) (z57.2.2.2.2.2.1 v1), up z57.2.2.2.2.1 ((6 * v1) + (z57.2.2.2.2.2.2 v1)) (z57.2.2.2.2.2.1 v1), z57.2.2.2.2.2.1, up z57.2.2.2.2.2.2 v1 ((z57.2.2.2.2.2.2 v1) + 1)) _ _ _ (lp_L2 hx57) Z (lv_sub hl [2, 3, 0] rfl)
    exact hL57 n (ex5.1 - 1, sMt.text, sMt.wordOf, sMt.start, sMt.stop, up sMt.many v1 0, up sMt.words v1 0) _ _ _ hl57 Z (lv_sub hl [1, 2, 0] rfl)
  have hL5 : ∀ (k5 : Nat) (z5 : Int × Int × Row) (H : Heap) (locs : List Loc) (ls : Array Slot), lp (p_X7_lay_b5 n sMv) k5 z5 = some ex5 → xSt g A s (wM g aM sMv sMp (sMt.text, sMt.wordOf, sMt.start, sMt.stop, sMt.many, sMt.words, z5.2.2) sMs sMc sMr) H locs → lv_has ls 6 [(0, .ref (aM 0)), (1, .int (iI v1)), (3, .int (iI z5.1)), (4, .int (iI z5.2.1))] → W p l e rmX7_lay s m args below meth c H locs 0 0 QQ (F0 m 5 ls []) := by
    intro k5
    induction k5 with
    | zero => intro z5 H locs ls h; exact (lp_0 h).elim
    | succ k5 ih5 =>
      intro z5 H locs ls h Z hl
      obtain ⟨x5, hb5, hx5⟩ := lp_s h
      clear h
      unfold p_X7_lay_b5 at hb5
      refine lv_iload C.1 C.2.1 dX7_lay_5 (lv_at hl 3 rfl) ?_
      have q13 := (ck_some hb5).1
      have h14 := (ck_some hb5).2
      clear hb5
      refine x_if_le (tgt := 38) C dX7_lay_7 (by decide) q13 (fun c15 => ?_) (fun c15 => ?_)
      · have h16 := if_n h14 c15
        clear h14
        cases h16
        have h18 := lp_R hx5
        subst h18
        exact hK5 _ _ _ Z (lv_sub hl [0, 1, 2] rfl)
      · have h17 := if_p h14 c15
        clear h14
        refine lv_aload_n C.1 C.2.1 dX7_lay_10 rfl (lv_at hl 0 rfl) ?_
        refine x_get C Z 0 rfl rfl i_X7_X7_lay (k := 14) (by decide) (List.mem_of_getElem? (i := 1) rfl) rfl dX7_lay_11 ?_
        refine lv_iload_n C.1 C.2.1 dX7_lay_14 rfl (lv_at hl 2 rfl) ?_
        refine lv_aload_n C.1 C.2.1 dX7_lay_15 rfl (lv_at hl 0 rfl) ?_
        refine x_get C Z 0 rfl rfl i_X7_X7_lay (k := 1) (by decide) (List.mem_of_getElem? (i := 2) rfl) rfl dX7_lay_16 ?_
        refine lv_iload C.1 C.2.1 dX7_lay_19 (lv_at hl 3 rfl) ?_
        have q19 := (ix_some h17).1
        have h20 := (ix_some h17).2
        clear h17
        refine x_iald C Z 2 rfl (by decide) q19 dX7_lay_21 ?_
        have q21 := (ix_some h20).1
        have h22 := (ix_some h20).2
        clear h20
        refine x_iast (ws2 := wM g aM sMv sMp (sMt.text, sMt.wordOf, sMt.start, sMt.stop, sMt.many, sMt.words, up z5.2.2 z5.1 (sMv.added z5.2.1)) sMs sMc sMr) C Z 12 rfl (by decide) q21 dX7_lay_22 rfl (fun H locs Z => ?_)
        refine x_iinc (lv' := [(3, .int (iI (z5.1 + 1))), (0, .ref (aM 0)), (1, .int (iI v1)), (4, .int (iI z5.2.1))]) C dX7_lay_23 hl (k := 2) rfl (by decide) rfl (fun ls hl => ?_)
        refine lv_aload_n C.1 C.2.1 dX7_lay_26 rfl (lv_at hl 1 rfl) ?_
        refine x_get C Z 0 rfl rfl i_X7_X7_lay (k := 0) (by decide) (List.mem_of_getElem? (i := 3) rfl) rfl dX7_lay_27 ?_
        refine lv_iload C.1 C.2.1 dX7_lay_30 (lv_at hl 3 rfl) ?_
        refine x_iald C Z 1 rfl (by decide) q19 dX7_lay_32 ?_
        refine lv_istore (lv' := [(4, .int (iI (sMv.parent z5.2.1))), (3, .int (iI (z5.1 + 1))), (0, .ref (aM 0)), (1, .int (iI v1))]) C.1 C.2.1 dX7_lay_33 hl (by decide) rfl (fun ls hl => ?_)
        refine lv_goto (tgt := 5) C.1 C.2.1 dX7_lay_35 (by decide) ?_
        cases h22
        exact ih5 (z5.1 + 1, sMv.parent z5.2.1, up z5.2.2 z5.1 (sMv.added z5.2.1)) _ _ _ (lp_L2 hx5) Z (lv_sub hl [2, 3, 1, 0] rfl)
  exact hL5 n (0, v2, sMt.line) _ _ _ hl5 Z (lv_sub hl [2, 3, 1, 0] rfl)
abbrev rmX7_rest : Room := { frames := 0, cells := 0, slots := 0, locals := 0 }
theorem yk_X7_rest : xY yX7_rest RX7 cX7_rest 3 (some .int) wsX7_rest rmX7_rest 2 := ⟨⟨_, rfl⟩, by decide +kernel, rfl, rfl⟩
theorem i_X7_X7_rest : ∀ w ∈ u_ws RX7 TX7 23, w ∈ wsX7_rest := fun _ h => List.mem_cons_of_mem _ (List.mem_append_right _ h)
set_option maxHeartbeats 4000000 in
set_option maxRecDepth 100000 in
theorem k_X7_rest (l : Launch) (g : xG) (n : Nat) (aM : Nat → Nat) (sMv : MvS) (sMp : MpS) (sMt : MtS) (sMs : MsS) (sMc : McS) (sMr : MrS) (v1 : Int) (v2 : Int) (r : Int) (hf : p_X7_rest sMt v1 v2 = some r) : xMi l yX7_rest wsX7_rest rmX7_rest g [.ref (aM 0), .int (iI v1), .int (iI v2)] (wM g aM sMv sMp sMt sMs sMc sMr) (wM g aM sMv sMp sMt sMs sMc sMr) r := by
  refine x_ofW_i (own := RX7) (by decide) rfl rfl (Nat.le_of_ble_eq_true rfl) ?_
  intro p e s m args below meth c ls A QQ C hRet Z hl
  have hl : lv_has ls 3 [(0, .ref (aM 0)), (1, .int (iI v1)), (2, .int (iI v2))] := hl
  unfold p_X7_rest at hf
  refine lv_aload_n C.1 C.2.1 dX7_rest_0 rfl (lv_at hl 0 rfl) ?_
  refine x_get C Z 0 rfl rfl i_X7_X7_rest (k := 11) (by decide) (List.mem_of_getElem? (i := 1) rfl) rfl dX7_rest_1 ?_
  refine x_bipush C dX7_rest_4 (by decide) ?_
  refine lv_iload_n C.1 C.2.1 dX7_rest_6 rfl (lv_at hl 1 rfl) ?_
  refine x_imul C dX7_rest_7 ?_
  refine lv_aload_n C.1 C.2.1 dX7_rest_8 rfl (lv_at hl 0 rfl) ?_
  refine x_get C Z 0 rfl rfl i_X7_X7_rest (k := 9) (by decide) (List.mem_of_getElem? (i := 2) rfl) rfl dX7_rest_9 ?_
  refine x_bipush C dX7_rest_12 (by decide) ?_
  refine lv_iload_n C.1 C.2.1 dX7_rest_14 rfl (lv_at hl 1 rfl) ?_
  refine x_imul C dX7_rest_15 ?_
  refine lv_iload_n C.1 C.2.1 dX7_rest_16 rfl (lv_at hl 2 rfl) ?_
  refine x_iadd C dX7_rest_17 ?_
  have q1 := (ix_some hf).1
  have h2 := (ix_some hf).2
  clear hf
  refine x_iald C Z 7 rfl (by decide) q1 dX7_rest_18 ?_
  refine x_iadd C dX7_rest_19 ?_
  have q3 := (ix_some h2).1
  have h4 := (ix_some h2).2
  clear h2
  refine x_iald C Z 9 rfl (by decide) q3 dX7_rest_20 ?_
  refine lv_iload_n C.1 C.2.1 dX7_rest_21 rfl (lv_at hl 2 rfl) ?_
  refine x_isub C dX7_rest_22 ?_
  have h5 := Option.some.inj h4
  subst h5
  exact hRet _ _ _ _ Z dX7_rest_23
abbrev rmX7_alike : Room := { frames := 1, cells := 0, slots := 0, locals := 22 }
theorem yk_X7_alike : xY yX7_alike RX7 cX7_alike 7 (some .int) wsX7_alike rmX7_alike 4 := ⟨⟨_, rfl⟩, by decide +kernel, rfl, rfl⟩
theorem i_X7_X7_alike : ∀ w ∈ u_ws RX7 TX7 23, w ∈ wsX7_alike := fun _ h => List.mem_cons_of_mem _ (List.mem_append_right _ h)
set_option maxHeartbeats 4000000 in
set_option maxRecDepth 100000 in
theorem k_X7_alike (l : Launch) (g : xG) (n : Nat) (aM : Nat → Nat) (sMv : MvS) (sMp : MpS) (sMt : MtS) (sMs : MsS) (sMc : McS) (sMr : MrS) (v1 : Int) (v2 : Int) (v3 : Int) (v4 : Int) (r : Int) (hf : p_X7_alike n sMt v1 v2 v3 v4 = some r) : xMi l yX7_alike wsX7_alike rmX7_alike g [.ref (aM 0), .int (iI v1), .int (iI v2), .int (iI v3), .int (iI v4)] (wM g aM sMv sMp sMt sMs sMc sMr) (wM g aM sMv sMp sMt sMs sMc sMr) r := by
  refine x_ofW_i (own := RX7) (by decide) rfl rfl (Nat.le_of_ble_eq_true rfl) ?_
  intro p e s m args below meth c ls A QQ C hRet Z hl
  have hl : lv_has ls 7 [(0, .ref (aM 0)), (1, .int (iI v1)), (2, .int (iI v2)), (3, .int (iI v3)), (4, .int (iI v4))] := hl
  unfold p_X7_alike at hf
  have hJ32 : ∀ (v1_32 : Int) (v2_32 : Int) (v3_32 : Int) (v4_32 : Int) (t0_32 : Int) (H : Heap) (locs : List Loc) (ls : Array Slot), p_X7_alike_j32 n sMt v1_32 v2_32 v3_32 v4_32 t0_32 = some r → xSt g A s (wM g aM sMv sMp sMt sMs sMc sMr) H locs → lv_has ls 7 [(0, .ref (aM 0)), (1, .int (iI v1_32)), (2, .int (iI v2_32)), (3, .int (iI v3_32)), (4, .int (iI v4_32))] → W p l e rmX7_alike s m args below meth c H locs 0 0 QQ (F0 m 32 ls [.int (iI t0_32)]) := by
    intro v1_32 v2_32 v3_32 v4_32 t0_32 H locs ls hj32 Z hl
    unfold p_X7_alike_j32 at hj32
    refine lv_istore (lv' := [(5, .int (iI t0_32)), (0, .ref (aM 0)), (1, .int (iI v1_32)), (2, .int (iI v2_32)), (3, .int (iI v3_32)), (4, .int (iI v4_32))]) C.1 C.2.1 dX7_alike_32 hl (by decide) rfl (fun ls hl => ?_)
    refine x_iconst C dX7_alike_34 ?_
    refine lv_istore (lv' := [(6, .int (iI 0)), (5, .int (iI t0_32)), (0, .ref (aM 0)), (1, .int (iI v1_32)), (2, .int (iI v2_32)), (3, .int (iI v3_32)), (4, .int (iI v4_32))]) C.1 C.2.1 dX7_alike_35 hl (by decide) rfl (fun ls hl => ?_)
    obtain ⟨ex37, hl37, h41⟩ := bd_some hj32
    clear hj32
    have hK37 : ∀ (H : Heap) (locs : List Loc) (ls : Array Slot), xSt g A s (wM g aM sMv sMp sMt sMs sMc sMr) H locs → lv_has ls 7 [(6, .int (iI ex37))] → W p l e rmX7_alike s m args below meth c H locs 0 0 QQ (F0 m 82 ls []) := by
      intro H locs ls Z hl
      have h42 := h41
      clear h41
      refine lv_iload C.1 C.2.1 dX7_alike_82 (lv_at hl 0 rfl) ?_
      have h43 := Option.some.inj h42
      subst h43
      exact hRet _ _ _ _ Z dX7_alike_84
    have hL37 : ∀ (k37 : Nat) (z37 : Int) (H : Heap) (locs : List Loc) (ls : Array Slot), lp (p_X7_alike_b37 n sMt v1_32 v2_32 v3_32 v4_32 t0_32) k37 z37 = some ex37 → xSt g A s (wM g aM sMv sMp sMt sMs sMc sMr) H locs → lv_has ls 7 [(0, .ref (aM 0)), (1, .int (iI v1_32)), (2, .int (iI v2_32)), (3, .int (iI v3_32)), (4, .int (iI v4_32)), (5, .int (iI t0_32)), (6, .int (iI z37))] → W p l e rmX7_alike s m args below meth c H locs 0 0 QQ (F0 m 37 ls []) := by
      intro k37
      induction k37 with
      | zero => intro z37 H locs ls h; exact (lp_0 h).elim
      | succ k37 ih37 =>
        intro z37 H locs ls h Z hl
        obtain ⟨x37, hb37, hx37⟩ := lp_s h
        clear h
        unfold p_X7_alike_b37 at hb37
        refine lv_iload C.1 C.2.1 dX7_alike_37 (lv_at hl 6 rfl) ?_
        refine lv_iload C.1 C.2.1 dX7_alike_39 (lv_at hl 5 rfl) ?_
        have q21 := (ck_some hb37).1
        have h22 := (ck_some hb37).2
        clear hb37
        have q23 := (ck_some h22).1
        have h24 := (ck_some h22).2
        clear h22
        refine x_icmp_ge (tgt := 82) C dX7_alike_41 (by decide) q21 q23 (fun c25 => ?_) (fun c25 => ?_)
        · have h26 := if_n h24 c25
          clear h24
          cases h26
          have h28 := lp_R hx37
          subst h28
          exact hK37 _ _ _ Z (lv_sub hl [6] rfl)
        · have h27 := if_p h24 c25
          clear h24
          refine lv_aload_n C.1 C.2.1 dX7_alike_44 rfl (lv_at hl 0 rfl) ?_
          refine x_get C Z 0 rfl rfl i_X7_X7_alike (k := 8) (by decide) (List.mem_of_getElem? (i := 1) rfl) rfl dX7_alike_45 ?_
          refine x_bipush C dX7_alike_48 (by decide) ?_
          refine lv_iload_n C.1 C.2.1 dX7_alike_50 rfl (lv_at hl 1 rfl) ?_
          refine x_imul C dX7_alike_51 ?_
          refine lv_iload_n C.1 C.2.1 dX7_alike_52 rfl (lv_at hl 2 rfl) ?_
          refine x_iadd C dX7_alike_53 ?_
          refine lv_iload C.1 C.2.1 dX7_alike_54 (lv_at hl 6 rfl) ?_
          refine x_iadd C dX7_alike_56 ?_
          have q29 := (ix_some h27).1
          have h30 := (ix_some h27).2
          clear h27
          refine x_iald C Z 6 rfl (by decide) q29 dX7_alike_57 ?_
          refine lv_aload_n C.1 C.2.1 dX7_alike_58 rfl (lv_at hl 0 rfl) ?_
          refine x_get C Z 0 rfl rfl i_X7_X7_alike (k := 8) (by decide) (List.mem_of_getElem? (i := 1) rfl) rfl dX7_alike_59 ?_
          refine x_bipush C dX7_alike_62 (by decide) ?_
          refine lv_iload_n C.1 C.2.1 dX7_alike_64 rfl (lv_at hl 3 rfl) ?_
          refine x_imul C dX7_alike_65 ?_
          refine lv_iload C.1 C.2.1 dX7_alike_66 (lv_at hl 4 rfl) ?_
          refine x_iadd C dX7_alike_68 ?_
          refine lv_iload C.1 C.2.1 dX7_alike_69 (lv_at hl 6 rfl) ?_
          refine x_iadd C dX7_alike_71 ?_
          have q31 := (ix_some h30).1
          have h32 := (ix_some h30).2
          clear h30
          refine x_iald C Z 6 rfl (by decide) q31 dX7_alike_72 ?_
          have q33 := (ck_some h32).1
          have h34 := (ck_some h32).2
          clear h32
          have q35 := (ck_some h34).1
          have h36 := (ck_some h34).2
          clear h34
          refine x_icmp_ne (tgt := 82) C dX7_alike_73 (by decide) q33 q35 (fun c37 => ?_) (fun c37 => ?_)
          · have h38 := if_n h36 c37
            clear h36
            cases h38
            have h40 := lp_R hx37
            subst h40
            exact hK37 _ _ _ Z (lv_sub hl [6] rfl)
          · have h39 := if_p h36 c37
            clear h36
            refine x_iinc (lv' := [(6, .int (iI (z37 + 1))), (0, .ref (aM 0)), (1, .int (iI v1_32)), (2, .int (iI v2_32)), (3, .int (iI v3_32)), (4, .int (iI v4_32)), (5, .int (iI t0_32))]) C dX7_alike_76 hl (k := 6) rfl (by decide) rfl (fun ls hl => ?_)
            refine lv_goto (tgt := 37) C.1 C.2.1 dX7_alike_79 (by decide) ?_
            cases h39
            exact ih37 (z37 + 1) _ _ _ (lp_L2 hx37) Z (lv_sub hl [1, 2, 3, 4, 5, 6, 0] rfl)
    exact hL37 n 0 _ _ _ hl37 Z (lv_sub hl [2, 3, 4, 5, 6, 1, 0] rfl)
  refine lv_aload_n C.1 C.2.1 dX7_alike_0 rfl (lv_at hl 0 rfl) ?_
  refine lv_iload_n C.1 C.2.1 dX7_alike_1 rfl (lv_at hl 1 rfl) ?_
  refine lv_iload_n C.1 C.2.1 dX7_alike_2 rfl (lv_at hl 2 rfl) ?_
  obtain ⟨r44, hr44, h45⟩ := bd_some hf
  clear hf
  refine x_callV_i_id (As := [.int (iI v1), .int (iI v2)]) (rest := []) (q0 := 0) C Z (k_X7_rest l g n aM sMv sMp sMt sMs sMc sMr v1 v2 r44 hr44) gX7_alike_X7_rest yk_X7_rest ⟨Nat.le_of_ble_eq_true rfl, Nat.le_of_ble_eq_true rfl⟩ rfl rfl ⟨Nat.zero_le _, Nat.zero_le _⟩ hl.1 rfl (Nat.le_of_ble_eq_true rfl) rfl dX7_alike_3 (fun H locs Z => ?_)
  refine lv_aload_n C.1 C.2.1 dX7_alike_6 rfl (lv_at hl 0 rfl) ?_
  refine lv_iload_n C.1 C.2.1 dX7_alike_7 rfl (lv_at hl 3 rfl) ?_
  refine lv_iload C.1 C.2.1 dX7_alike_8 (lv_at hl 4 rfl) ?_
  obtain ⟨r46, hr46, h47⟩ := bd_some h45
  clear h45
  refine x_callV_i_id (As := [.int (iI v3), .int (iI v4)]) (rest := [.int (iI r44)]) (q0 := 0) C Z (k_X7_rest l g n aM sMv sMp sMt sMs sMc sMr v3 v4 r46 hr46) gX7_alike_X7_rest yk_X7_rest ⟨Nat.le_of_ble_eq_true rfl, Nat.le_of_ble_eq_true rfl⟩ rfl rfl ⟨Nat.zero_le _, Nat.zero_le _⟩ hl.1 rfl (Nat.le_of_ble_eq_true rfl) rfl dX7_alike_10 (fun H locs Z => ?_)
  have q48 := (ck_some h47).1
  have h49 := (ck_some h47).2
  clear h47
  have q50 := (ck_some h49).1
  have h51 := (ck_some h49).2
  clear h49
  refine x_icmp_ge (tgt := 25) C dX7_alike_13 (by decide) q48 q50 (fun c52 => ?_) (fun c52 => ?_)
  · have h53 := if_n h51 c52
    clear h51
    refine lv_aload_n C.1 C.2.1 dX7_alike_25 rfl (lv_at hl 0 rfl) ?_
    refine lv_iload_n C.1 C.2.1 dX7_alike_26 rfl (lv_at hl 3 rfl) ?_
    refine lv_iload C.1 C.2.1 dX7_alike_27 (lv_at hl 4 rfl) ?_
    obtain ⟨r55, hr55, h56⟩ := bd_some h53
    clear h53
    refine x_callV_i_id (As := [.int (iI v3), .int (iI v4)]) (rest := []) (q0 := 0) C Z (k_X7_rest l g n aM sMv sMp sMt sMs sMc sMr v3 v4 r55 hr55) gX7_alike_X7_rest yk_X7_rest ⟨Nat.le_of_ble_eq_true rfl, Nat.le_of_ble_eq_true rfl⟩ rfl rfl ⟨Nat.zero_le _, Nat.zero_le _⟩ hl.1 rfl (Nat.le_of_ble_eq_true rfl) rfl dX7_alike_29 (fun H locs Z => ?_)
    exact hJ32 v1 v2 v3 v4 r55 _ _ _ h56 Z (lv_sub hl [0, 1, 2, 3, 4] rfl)
  · have h54 := if_p h51 c52
    clear h51
    refine lv_aload_n C.1 C.2.1 dX7_alike_16 rfl (lv_at hl 0 rfl) ?_
    refine lv_iload_n C.1 C.2.1 dX7_alike_17 rfl (lv_at hl 1 rfl) ?_
    refine lv_iload_n C.1 C.2.1 dX7_alike_18 rfl (lv_at hl 2 rfl) ?_
    obtain ⟨r57, hr57, h58⟩ := bd_some h54
    clear h54
    refine x_callV_i_id (As := [.int (iI v1), .int (iI v2)]) (rest := []) (q0 := 0) C Z (k_X7_rest l g n aM sMv sMp sMt sMs sMc sMr v1 v2 r57 hr57) gX7_alike_X7_rest yk_X7_rest ⟨Nat.le_of_ble_eq_true rfl, Nat.le_of_ble_eq_true rfl⟩ rfl rfl ⟨Nat.zero_le _, Nat.zero_le _⟩ hl.1 rfl (Nat.le_of_ble_eq_true rfl) rfl dX7_alike_19 (fun H locs Z => ?_)
    refine lv_goto (tgt := 32) C.1 C.2.1 dX7_alike_22 (by decide) ?_
    exact hJ32 v1 v2 v3 v4 r57 _ _ _ h58 Z (lv_sub hl [0, 1, 2, 3, 4] rfl)
abbrev rmX7_isBefore : Room := { frames := 2, cells := 0, slots := 0, locals := 48 }
theorem yk_X7_isBefore : xY yX7_isBefore RX7 cX7_isBefore 4 (some .boolean) wsX7_isBefore rmX7_isBefore 2 := ⟨⟨_, rfl⟩, by decide +kernel, rfl, rfl⟩
theorem i_X7_X7_isBefore : ∀ w ∈ u_ws RX7 TX7 23, w ∈ wsX7_isBefore := fun _ h => List.mem_cons_of_mem _ (List.mem_append_right _ h)
set_option maxHeartbeats 4000000 in
set_option maxRecDepth 100000 in
theorem k_X7_isBefore (l : Launch) (g : xG) (n : Nat) (aM : Nat → Nat) (sMv : MvS) (sMp : MpS) (sMt : MtS) (sMs : MsS) (sMc : McS) (sMr : MrS) (v1 : Int) (v2 : Int) (r : Int) (hf : p_X7_isBefore n sMt v1 v2 = some r) : xMi l yX7_isBefore wsX7_isBefore rmX7_isBefore g [.ref (aM 0), .int (iI v1), .int (iI v2)] (wM g aM sMv sMp sMt sMs sMc sMr) (wM g aM sMv sMp sMt sMs sMc sMr) r := by
  refine x_ofW_z (own := RX7) (by decide) rfl rfl (Nat.le_of_ble_eq_true rfl) ?_
  intro p e s m args below meth c ls A QQ C hRet Z hl
  have hl : lv_has ls 4 [(0, .ref (aM 0)), (1, .int (iI v1)), (2, .int (iI v2))] := hl
  unfold p_X7_isBefore at hf
  refine lv_aload_n C.1 C.2.1 dX7_isBefore_0 rfl (lv_at hl 0 rfl) ?_
  refine x_iconst C dX7_isBefore_1 ?_
  refine lv_iload_n C.1 C.2.1 dX7_isBefore_2 rfl (lv_at hl 1 rfl) ?_
  refine x_iconst C dX7_isBefore_3 ?_
  refine lv_iload_n C.1 C.2.1 dX7_isBefore_4 rfl (lv_at hl 2 rfl) ?_
  obtain ⟨r1, hr1, h2⟩ := bd_some hf
  clear hf
  refine x_callV_i_id (As := [.int (iI 0), .int (iI v1), .int (iI 0), .int (iI v2)]) (rest := []) (q0 := 0) C Z (k_X7_alike l g n aM sMv sMp sMt sMs sMc sMr 0 v1 0 v2 r1 hr1) gX7_isBefore_X7_alike yk_X7_alike ⟨Nat.le_of_ble_eq_true rfl, Nat.le_of_ble_eq_true rfl⟩ rfl rfl ⟨Nat.zero_le _, Nat.zero_le _⟩ hl.1 rfl (Nat.le_of_ble_eq_true rfl) rfl dX7_isBefore_5 (fun H locs Z => ?_)
  refine lv_istore_n (lv' := [(3, .int (iI r1)), (0, .ref (aM 0)), (1, .int (iI v1)), (2, .int (iI v2))]) C.1 C.2.1 dX7_isBefore_8 rfl hl (by decide) rfl (fun ls hl => ?_)
  refine lv_iload_n C.1 C.2.1 dX7_isBefore_9 rfl (lv_at hl 0 rfl) ?_
  refine lv_aload_n C.1 C.2.1 dX7_isBefore_10 rfl (lv_at hl 1 rfl) ?_
  refine x_iconst C dX7_isBefore_11 ?_
  refine lv_iload_n C.1 C.2.1 dX7_isBefore_12 rfl (lv_at hl 2 rfl) ?_
  obtain ⟨r3, hr3, h4⟩ := bd_some h2
  clear h2
  refine x_callV_i_id (As := [.int (iI 0), .int (iI v1)]) (rest := [.int (iI r1)]) (q0 := 0) C Z (k_X7_rest l g n aM sMv sMp sMt sMs sMc sMr 0 v1 r3 hr3) gX7_isBefore_X7_rest yk_X7_rest ⟨Nat.le_of_ble_eq_true rfl, Nat.le_of_ble_eq_true rfl⟩ rfl rfl ⟨Nat.zero_le _, Nat.zero_le _⟩ hl.1 rfl (Nat.le_of_ble_eq_true rfl) rfl dX7_isBefore_13 (fun H locs Z => ?_)
  have q5 := (ck_some h4).1
  have h6 := (ck_some h4).2
  clear h4
  have q7 := (ck_some h6).1
  have h8 := (ck_some h6).2
  clear h6
  refine x_icmp_ne (tgt := 40) C dX7_isBefore_16 (by decide) q5 q7 (fun c9 => ?_) (fun c9 => ?_)
  · have h10 := if_n h8 c9
    clear h8
    refine lv_iload_n C.1 C.2.1 dX7_isBefore_40 rfl (lv_at hl 0 rfl) ?_
    refine lv_aload_n C.1 C.2.1 dX7_isBefore_41 rfl (lv_at hl 1 rfl) ?_
    refine x_iconst C dX7_isBefore_42 ?_
    refine lv_iload_n C.1 C.2.1 dX7_isBefore_43 rfl (lv_at hl 3 rfl) ?_
    obtain ⟨r12, hr12, h13⟩ := bd_some h10
    clear h10
    refine x_callV_i_id (As := [.int (iI 0), .int (iI v2)]) (rest := [.int (iI r1)]) (q0 := 0) C Z (k_X7_rest l g n aM sMv sMp sMt sMs sMc sMr 0 v2 r12 hr12) gX7_isBefore_X7_rest yk_X7_rest ⟨Nat.le_of_ble_eq_true rfl, Nat.le_of_ble_eq_true rfl⟩ rfl rfl ⟨Nat.zero_le _, Nat.zero_le _⟩ hl.1 rfl (Nat.le_of_ble_eq_true rfl) rfl dX7_isBefore_44 (fun H locs Z => ?_)
    have q14 := (ck_some h13).1
    have h15 := (ck_some h13).2
    clear h13
    refine x_icmp_ge (tgt := 73) C dX7_isBefore_47 (by decide) q5 q14 (fun c16 => ?_) (fun c16 => ?_)
    · have h17 := if_n h15 c16
      clear h15
      refine x_iconst C dX7_isBefore_73 ?_
      have h19 := Option.some.inj h17
      subst h19
      exact hRet _ _ _ _ (x_bool (Or.inl rfl)) Z dX7_isBefore_74
    · have h18 := if_p h15 c16
      clear h15
      refine lv_aload_n C.1 C.2.1 dX7_isBefore_50 rfl (lv_at hl 1 rfl) ?_
      refine x_get C Z 0 rfl rfl i_X7_X7_isBefore (k := 8) (by decide) (List.mem_of_getElem? (i := 1) rfl) rfl dX7_isBefore_51 ?_
      refine lv_iload_n C.1 C.2.1 dX7_isBefore_54 rfl (lv_at hl 2 rfl) ?_
      refine lv_iload_n C.1 C.2.1 dX7_isBefore_55 rfl (lv_at hl 0 rfl) ?_
      refine x_iadd C dX7_isBefore_56 ?_
      have q20 := (ix_some h18).1
      have h21 := (ix_some h18).2
      clear h18
      refine x_iald C Z 6 rfl (by decide) q20 dX7_isBefore_57 ?_
      refine lv_aload_n C.1 C.2.1 dX7_isBefore_58 rfl (lv_at hl 1 rfl) ?_
      refine x_get C Z 0 rfl rfl i_X7_X7_isBefore (k := 8) (by decide) (List.mem_of_getElem? (i := 1) rfl) rfl dX7_isBefore_59 ?_
      refine lv_iload_n C.1 C.2.1 dX7_isBefore_62 rfl (lv_at hl 3 rfl) ?_
      refine lv_iload_n C.1 C.2.1 dX7_isBefore_63 rfl (lv_at hl 0 rfl) ?_
      refine x_iadd C dX7_isBefore_64 ?_
      have q22 := (ix_some h21).1
      have h23 := (ix_some h21).2
      clear h21
      refine x_iald C Z 6 rfl (by decide) q22 dX7_isBefore_65 ?_
      have q24 := (ck_some h23).1
      have h25 := (ck_some h23).2
      clear h23
      have q26 := (ck_some h25).1
      have h27 := (ck_some h25).2
      clear h25
      refine x_icmp_ge (tgt := 73) C dX7_isBefore_66 (by decide) q24 q26 (fun c28 => ?_) (fun c28 => ?_)
      · have h29 := if_n h27 c28
        clear h27
        refine x_iconst C dX7_isBefore_73 ?_
        have h31 := Option.some.inj h29
        subst h31
        exact hRet _ _ _ _ (x_bool (Or.inl rfl)) Z dX7_isBefore_74
      · have h30 := if_p h27 c28
        clear h27
        refine x_iconst C dX7_isBefore_69 ?_
        refine lv_goto (tgt := 74) C.1 C.2.1 dX7_isBefore_70 (by decide) ?_
        have h32 := Option.some.inj h30
        subst h32
        exact hRet _ _ _ _ (x_bool (Or.inr rfl)) Z dX7_isBefore_74
  · have h11 := if_p h8 c9
    clear h8
    refine lv_iload_n C.1 C.2.1 dX7_isBefore_19 rfl (lv_at hl 0 rfl) ?_
    refine lv_aload_n C.1 C.2.1 dX7_isBefore_20 rfl (lv_at hl 1 rfl) ?_
    refine x_iconst C dX7_isBefore_21 ?_
    refine lv_iload_n C.1 C.2.1 dX7_isBefore_22 rfl (lv_at hl 3 rfl) ?_
    obtain ⟨r33, hr33, h34⟩ := bd_some h11
    clear h11
    refine x_callV_i_id (As := [.int (iI 0), .int (iI v2)]) (rest := [.int (iI r1)]) (q0 := 0) C Z (k_X7_rest l g n aM sMv sMp sMt sMs sMc sMr 0 v2 r33 hr33) gX7_isBefore_X7_rest yk_X7_rest ⟨Nat.le_of_ble_eq_true rfl, Nat.le_of_ble_eq_true rfl⟩ rfl rfl ⟨Nat.zero_le _, Nat.zero_le _⟩ hl.1 rfl (Nat.le_of_ble_eq_true rfl) rfl dX7_isBefore_23 (fun H locs Z => ?_)
    have q35 := (ck_some h34).1
    have h36 := (ck_some h34).2
    clear h34
    refine x_icmp_lt (tgt := 34) C dX7_isBefore_26 (by decide) q5 q35 (fun c37 => ?_) (fun c37 => ?_)
    · have h38 := if_p h36 c37
      clear h36
      refine x_iconst C dX7_isBefore_34 ?_
      refine lv_goto (tgt := 39) C.1 C.2.1 dX7_isBefore_35 (by decide) ?_
      have h40 := Option.some.inj h38
      subst h40
      exact hRet _ _ _ _ (x_bool (Or.inr rfl)) Z dX7_isBefore_39
    · have h39 := if_n h36 c37
      clear h36
      refine lv_iload_n C.1 C.2.1 dX7_isBefore_29 rfl (lv_at hl 2 rfl) ?_
      refine lv_iload_n C.1 C.2.1 dX7_isBefore_30 rfl (lv_at hl 3 rfl) ?_
      have q41 := (ck_some h39).1
      have h42 := (ck_some h39).2
      clear h39
      have q43 := (ck_some h42).1
      have h44 := (ck_some h42).2
      clear h42
      refine x_icmp_ge (tgt := 38) C dX7_isBefore_31 (by decide) q41 q43 (fun c45 => ?_) (fun c45 => ?_)
      · have h46 := if_n h44 c45
        clear h44
        refine x_iconst C dX7_isBefore_38 ?_
        have h48 := Option.some.inj h46
        subst h48
        exact hRet _ _ _ _ (x_bool (Or.inl rfl)) Z dX7_isBefore_39
      · have h47 := if_p h44 c45
        clear h44
        refine x_iconst C dX7_isBefore_34 ?_
        refine lv_goto (tgt := 39) C.1 C.2.1 dX7_isBefore_35 (by decide) ?_
        have h49 := Option.some.inj h47
        subst h49
        exact hRet _ _ _ _ (x_bool (Or.inr rfl)) Z dX7_isBefore_39
abbrev rmX7_sort : Room := { frames := 3, cells := 0, slots := 0, locals := 71 }
theorem yk_X7_sort : xY yX7_sort RX7 cX7_sort 3 none wsX7_sort rmX7_sort 0 := ⟨⟨_, rfl⟩, by decide +kernel, rfl, rfl⟩
theorem i_X7_X7_sort : ∀ w ∈ u_ws RX7 TX7 23, w ∈ wsX7_sort := fun _ h => List.mem_cons_of_mem _ (List.mem_append_right _ h)
set_option maxHeartbeats 4000000 in
set_option maxRecDepth 100000 in
theorem k_X7_sort (l : Launch) (g : xG) (n : Nat) (aM : Nat → Nat) (sMv : MvS) (sMp : MpS) (sMt : MtS) (sMs : MsS) (sMc : McS) (sMr : MrS) (r : MsS) (hf : p_X7_sort n sMt sMs = some r) : xMv l yX7_sort wsX7_sort rmX7_sort g [.ref (aM 0)] (wM g aM sMv sMp sMt sMs sMc sMr) (wM g aM sMv sMp sMt r sMc sMr) := by
  refine x_ofW_v (own := RX7) (by decide) rfl rfl (Nat.le_of_ble_eq_true rfl) ?_
  intro p e s m args below meth c ls A QQ C hRet Z hl
  have hl : lv_has ls 3 [(0, .ref (aM 0))] := hl
  unfold p_X7_sort at hf
  refine x_iconst C dX7_sort_0 ?_
  refine lv_istore_n (lv' := [(1, .int (iI 0)), (0, .ref (aM 0))]) C.1 C.2.1 dX7_sort_1 rfl hl (by decide) rfl (fun ls hl => ?_)
  obtain ⟨ex2, hl2, h109⟩ := bd_some hf
  clear hf
  have hK2 : ∀ (H : Heap) (locs : List Loc) (ls : Array Slot), xSt g A s (wM g aM sMv sMp sMt (ex2, sMs.near) sMc sMr) H locs → lv_has ls 3 [(0, .ref (aM 0))] → W p l e rmX7_sort s m args below meth c H locs 0 0 QQ (F0 m 67 ls []) := by
    intro H locs ls Z hl
    have h110 := h109
    clear h109
    refine x_iconst C dX7_sort_67 ?_
    refine lv_istore_n (lv' := [(1, .int (iI 0)), (0, .ref (aM 0))]) C.1 C.2.1 dX7_sort_68 rfl hl (by decide) rfl (fun ls hl => ?_)
    obtain ⟨ex69, hl69, h153⟩ := bd_some h110
    clear h110
    have hK69 : ∀ (H : Heap) (locs : List Loc) (ls : Array Slot), xSt g A s (wM g aM sMv sMp sMt (ex2, ex69) sMc sMr) H locs → lv_has ls 3 [] → W p l e rmX7_sort s m args below meth c H locs 0 0 QQ (F0 m 119 ls []) := by
      intro H locs ls Z hl
      have h154 := h153
      clear h153
      have h155 := Option.some.inj h154
      subst h155
      exact hRet _ _ _ _ Z dX7_sort_119
    have hL69 : ∀ (k69 : Nat) (z69 : Int × Row) (H : Heap) (locs : List Loc) (ls : Array Slot), lp (p_X7_sort_b69 n sMt (ex2, sMs.near)) k69 z69 = some ex69 → xSt g A s (wM g aM sMv sMp sMt (ex2, z69.2) sMc sMr) H locs → lv_has ls 3 [(0, .ref (aM 0)), (1, .int (iI z69.1))] → W p l e rmX7_sort s m args below meth c H locs 0 0 QQ (F0 m 69 ls []) := by
      intro k69
      induction k69 with
      | zero => intro z69 H locs ls h; exact (lp_0 h).elim
      | succ k69 ih69 =>
        intro z69 H locs ls h Z hl
        obtain ⟨x69, hb69, hx69⟩ := lp_s h
        clear h
        unfold p_X7_sort_b69 at hb69
        refine lv_iload_n C.1 C.2.1 dX7_sort_69 rfl (lv_at hl 1 rfl) ?_
        refine lv_aload_n C.1 C.2.1 dX7_sort_70 rfl (lv_at hl 0 rfl) ?_
        refine x_get C Z 0 rfl rfl i_X7_X7_sort (k := 12) (by decide) (List.mem_of_getElem? (i := 1) rfl) rfl dX7_sort_71 ?_
        refine x_iconst C dX7_sort_74 ?_
        refine x_iald C Z 10 rfl (by decide) (by decide) dX7_sort_75 ?_
        have q134 := (ck_some hb69).1
        have h135 := (ck_some hb69).2
        clear hb69
        have q136 := (ck_some h135).1
        have h137 := (ck_some h135).2
        clear h135
        refine x_icmp_ge (tgt := 119) C dX7_sort_76 (by decide) q134 q136 (fun c138 => ?_) (fun c138 => ?_)
        · have h139 := if_n h137 c138
          clear h137
          cases h139
          have h141 := lp_R hx69
          subst h141
          exact hK69 _ _ _ Z (lv_sub hl [] rfl)
        · have h140 := if_p h137 c138
          clear h137
          refine lv_aload_n C.1 C.2.1 dX7_sort_79 rfl (lv_at hl 0 rfl) ?_
          refine x_get C Z 0 rfl rfl i_X7_X7_sort (k := 16) (by decide) (List.mem_of_getElem? (i := 3) rfl) rfl dX7_sort_80 ?_
          refine lv_iload_n C.1 C.2.1 dX7_sort_83 rfl (lv_at hl 1 rfl) ?_
          refine lv_iload_n C.1 C.2.1 dX7_sort_84 rfl (lv_at hl 1 rfl) ?_
          refine x_if_ne (tgt := 92) C dX7_sort_85 (by decide) q134 (fun c142 => ?_) (fun c142 => ?_)
          · have h143 := if_n h140 c142
            clear h140
            refine lv_aload_n C.1 C.2.1 dX7_sort_92 rfl (lv_at hl 0 rfl) ?_
            refine x_iconst C dX7_sort_93 ?_
            refine lv_aload_n C.1 C.2.1 dX7_sort_94 rfl (lv_at hl 0 rfl) ?_
            refine x_get C Z 0 rfl rfl i_X7_X7_sort (k := 15) (by decide) (List.mem_of_getElem? (i := 2) rfl) rfl dX7_sort_95 ?_
            refine lv_iload_n C.1 C.2.1 dX7_sort_98 rfl (lv_at hl 1 rfl) ?_
            refine x_iconst C dX7_sort_99 ?_
            refine x_isub C dX7_sort_100 ?_
            have q145 := (ix_some h143).1
            have h146 := (ix_some h143).2
            clear h143
            refine x_iald C Z 13 rfl (by decide) q145 dX7_sort_101 ?_
            refine x_iconst C dX7_sort_102 ?_
            refine lv_aload_n C.1 C.2.1 dX7_sort_103 rfl (lv_at hl 0 rfl) ?_
            refine x_get C Z 0 rfl rfl i_X7_X7_sort (k := 15) (by decide) (List.mem_of_getElem? (i := 2) rfl) rfl dX7_sort_104 ?_
            refine lv_iload_n C.1 C.2.1 dX7_sort_107 rfl (lv_at hl 1 rfl) ?_
            have q147 := (ix_some h146).1
            have h148 := (ix_some h146).2
            clear h146
            refine x_iald C Z 13 rfl (by decide) q147 dX7_sort_108 ?_
            obtain ⟨r149, hr149, h150⟩ := bd_some h148
            clear h148
            refine x_callV_i_id (As := [.int (iI 0), .int (iI (ex2 (z69.1 - 1))), .int (iI 0), .int (iI (ex2 z69.1))]) (rest := [.int (iI z69.1), .ref (aM 14)]) (q0 := 0) C Z (k_X7_alike l g n aM sMv sMp sMt (ex2, z69.2) sMc sMr 0 (ex2 (z69.1 - 1)) 0 (ex2 z69.1) r149 hr149) gX7_sort_X7_alike yk_X7_alike ⟨Nat.le_of_ble_eq_true rfl, Nat.le_of_ble_eq_true rfl⟩ rfl rfl ⟨Nat.zero_le _, Nat.zero_le _⟩ hl.1 rfl (Nat.le_of_ble_eq_true rfl) rfl dX7_sort_109 (fun H locs Z => ?_)
            refine x_iast (ws2 := wM g aM sMv sMp sMt (ex2, up z69.2 z69.1 r149) sMc sMr) C Z 14 rfl (by decide) q147 dX7_sort_112 rfl (fun H locs Z => ?_)
            refine x_iinc (lv' := [(1, .int (iI (z69.1 + 1))), (0, .ref (aM 0))]) C dX7_sort_113 hl (k := 1) rfl (by decide) rfl (fun ls hl => ?_)
            refine lv_goto (tgt := 69) C.1 C.2.1 dX7_sort_116 (by decide) ?_
            cases h150
            exact ih69 (z69.1 + 1, up z69.2 z69.1 r149) _ _ _ (lp_L2 hx69) Z (lv_sub hl [1, 0] rfl)
          · have h144 := if_p h140 c142
            clear h140
            refine x_iconst C dX7_sort_88 ?_
            refine lv_goto (tgt := 112) C.1 C.2.1 dX7_sort_89 (by decide) ?_
            have q151 := (ix_some h144).1
            have h152 := (ix_some h144).2
            clear h144
            refine x_iast (ws2 := wM g aM sMv sMp sMt (ex2, up z69.2 z69.1 0) sMc sMr) C Z 14 rfl (by decide) q151 dX7_sort_112 rfl (fun H locs Z => ?_)
            refine x_iinc (lv' := [(1, .int (iI (z69.1 + 1))), (0, .ref (aM 0))]) C dX7_sort_113 hl (k := 1) rfl (by decide) rfl (fun ls hl => ?_)
            refine lv_goto (tgt := 69) C.1 C.2.1 dX7_sort_116 (by decide) ?_
            cases h152
            exact ih69 (z69.1 + 1, up z69.2 z69.1 0) _ _ _ (lp_L2 hx69) Z (lv_sub hl [1, 0] rfl)
    exact hL69 n (0, sMs.near) _ _ _ hl69 Z (lv_sub hl [1, 0] rfl)
  have hL2 : ∀ (k2 : Nat) (z2 : Int × Row) (H : Heap) (locs : List Loc) (ls : Array Slot), lp (p_X7_sort_b2 n sMt) k2 z2 = some ex2 → xSt g A s (wM g aM sMv sMp sMt (z2.2, sMs.near) sMc sMr) H locs → lv_has ls 3 [(0, .ref (aM 0)), (1, .int (iI z2.1))] → W p l e rmX7_sort s m args below meth c H locs 0 0 QQ (F0 m 2 ls []) := by
    intro k2
    induction k2 with
    | zero => intro z2 H locs ls h; exact (lp_0 h).elim
    | succ k2 ih2 =>
      intro z2 H locs ls h Z hl
      obtain ⟨x2, hb2, hx2⟩ := lp_s h
      clear h
      unfold p_X7_sort_b2 at hb2
      refine lv_iload_n C.1 C.2.1 dX7_sort_2 rfl (lv_at hl 1 rfl) ?_
      refine lv_aload_n C.1 C.2.1 dX7_sort_3 rfl (lv_at hl 0 rfl) ?_
      refine x_get C Z 0 rfl rfl i_X7_X7_sort (k := 12) (by decide) (List.mem_of_getElem? (i := 1) rfl) rfl dX7_sort_4 ?_
      refine x_iconst C dX7_sort_7 ?_
      refine x_iald C Z 10 rfl (by decide) (by decide) dX7_sort_8 ?_
      have q57 := (ck_some hb2).1
      have h58 := (ck_some hb2).2
      clear hb2
      have q59 := (ck_some h58).1
      have h60 := (ck_some h58).2
      clear h58
      refine x_icmp_ge (tgt := 67) C dX7_sort_9 (by decide) q57 q59 (fun c61 => ?_) (fun c61 => ?_)
      · have h62 := if_n h60 c61
        clear h60
        cases h62
        have h64 := lp_R hx2
        subst h64
        exact hK2 _ _ _ Z (lv_sub hl [0] rfl)
      · have h63 := if_p h60 c61
        clear h60
        refine lv_iload_n C.1 C.2.1 dX7_sort_12 rfl (lv_at hl 1 rfl) ?_
        refine lv_istore_n (lv' := [(2, .int (iI z2.1)), (0, .ref (aM 0)), (1, .int (iI z2.1))]) C.1 C.2.1 dX7_sort_13 rfl hl (by decide) rfl (fun ls hl => ?_)
        obtain ⟨ex14, hl14, h105⟩ := bd_some h63
        clear h63
        have hK14 : ∀ (H : Heap) (locs : List Loc) (ls : Array Slot), xSt g A s (wM g aM sMv sMp sMt (ex14.2, sMs.near) sMc sMr) H locs → lv_has ls 3 [(0, .ref (aM 0)), (1, .int (iI z2.1)), (2, .int (iI ex14.1))] → W p l e rmX7_sort s m args below meth c H locs 0 0 QQ (F0 m 54 ls []) := by
          intro H locs ls Z hl
          have h106 := h105
          clear h105
          refine lv_aload_n C.1 C.2.1 dX7_sort_54 rfl (lv_at hl 0 rfl) ?_
          refine x_get C Z 0 rfl rfl i_X7_X7_sort (k := 15) (by decide) (List.mem_of_getElem? (i := 2) rfl) rfl dX7_sort_55 ?_
          refine lv_iload_n C.1 C.2.1 dX7_sort_58 rfl (lv_at hl 2 rfl) ?_
          refine lv_iload_n C.1 C.2.1 dX7_sort_59 rfl (lv_at hl 1 rfl) ?_
          have q107 := (ix_some h106).1
          have h108 := (ix_some h106).2
          clear h106
          refine x_iast (ws2 := wM g aM sMv sMp sMt (up ex14.2 ex14.1 z2.1, sMs.near) sMc sMr) C Z 13 rfl (by decide) q107 dX7_sort_60 rfl (fun H locs Z => ?_)
          refine x_iinc (lv' := [(1, .int (iI (z2.1 + 1))), (0, .ref (aM 0)), (2, .int (iI ex14.1))]) C dX7_sort_61 hl (k := 1) rfl (by decide) rfl (fun ls hl => ?_)
          refine lv_goto (tgt := 2) C.1 C.2.1 dX7_sort_64 (by decide) ?_
          cases h108
          exact ih2 (z2.1 + 1, up ex14.2 ex14.1 z2.1) _ _ _ (lp_L2 hx2) Z (lv_sub hl [1, 0] rfl)
        have hL14 : ∀ (k14 : Nat) (z14 : Int × Row) (H : Heap) (locs : List Loc) (ls : Array Slot), lp (p_X7_sort_b14 n sMt z2.1) k14 z14 = some ex14 → xSt g A s (wM g aM sMv sMp sMt (z14.2, sMs.near) sMc sMr) H locs → lv_has ls 3 [(0, .ref (aM 0)), (1, .int (iI z2.1)), (2, .int (iI z14.1))] → W p l e rmX7_sort s m args below meth c H locs 0 0 QQ (F0 m 14 ls []) := by
          intro k14
          induction k14 with
          | zero => intro z14 H locs ls h; exact (lp_0 h).elim
          | succ k14 ih14 =>
            intro z14 H locs ls h Z hl
            obtain ⟨x14, hb14, hx14⟩ := lp_s h
            clear h
            unfold p_X7_sort_b14 at hb14
            refine lv_iload_n C.1 C.2.1 dX7_sort_14 rfl (lv_at hl 2 rfl) ?_
            have q85 := (ck_some hb14).1
            have h86 := (ck_some hb14).2
            clear hb14
            refine x_if_le (tgt := 54) C dX7_sort_15 (by decide) q85 (fun c87 => ?_) (fun c87 => ?_)
            · have h88 := if_n h86 c87
              clear h86
              cases h88
              have h90 := lp_R hx14
              subst h90
              exact hK14 _ _ _ Z (lv_sub hl [0, 1, 2] rfl)
            · have h89 := if_p h86 c87
              clear h86
              refine lv_aload_n C.1 C.2.1 dX7_sort_18 rfl (lv_at hl 0 rfl) ?_
              refine lv_iload_n C.1 C.2.1 dX7_sort_19 rfl (lv_at hl 1 rfl) ?_
              refine lv_aload_n C.1 C.2.1 dX7_sort_20 rfl (lv_at hl 0 rfl) ?_
              refine x_get C Z 0 rfl rfl i_X7_X7_sort (k := 15) (by decide) (List.mem_of_getElem? (i := 2) rfl) rfl dX7_sort_21 ?_
              refine lv_iload_n C.1 C.2.1 dX7_sort_24 rfl (lv_at hl 2 rfl) ?_
              refine x_iconst C dX7_sort_25 ?_
              refine x_isub C dX7_sort_26 ?_
              have q91 := (ix_some h89).1
              have h92 := (ix_some h89).2
              clear h89
              refine x_iald C Z 13 rfl (by decide) q91 dX7_sort_27 ?_
              obtain ⟨r93, hr93, h94⟩ := bd_some h92
              clear h92
              refine x_callV_i_id (As := [.int (iI z2.1), .int (iI (z14.2 (z14.1 - 1)))]) (rest := []) (q0 := 0) C Z (k_X7_isBefore l g n aM sMv sMp sMt (z14.2, sMs.near) sMc sMr z2.1 (z14.2 (z14.1 - 1)) r93 hr93) gX7_sort_X7_isBefore yk_X7_isBefore ⟨Nat.le_of_ble_eq_true rfl, Nat.le_of_ble_eq_true rfl⟩ rfl rfl ⟨Nat.zero_le _, Nat.zero_le _⟩ hl.1 rfl (Nat.le_of_ble_eq_true rfl) rfl dX7_sort_28 (fun H locs Z => ?_)
              have q95 := (ck_some h94).1
              have h96 := (ck_some h94).2
              clear h94
              refine x_if_eq (tgt := 54) C dX7_sort_31 (by decide) q95 (fun c97 => ?_) (fun c97 => ?_)
              · have h98 := if_p h96 c97
                clear h96
                cases h98
                have h100 := lp_R hx14
                subst h100
                exact hK14 _ _ _ Z (lv_sub hl [0, 1, 2] rfl)
              · have h99 := if_n h96 c97
                clear h96
                refine lv_aload_n C.1 C.2.1 dX7_sort_34 rfl (lv_at hl 0 rfl) ?_
                refine x_get C Z 0 rfl rfl i_X7_X7_sort (k := 15) (by decide) (List.mem_of_getElem? (i := 2) rfl) rfl dX7_sort_35 ?_
                refine lv_iload_n C.1 C.2.1 dX7_sort_38 rfl (lv_at hl 2 rfl) ?_
                refine lv_aload_n C.1 C.2.1 dX7_sort_39 rfl (lv_at hl 0 rfl) ?_
                refine x_get C Z 0 rfl rfl i_X7_X7_sort (k := 15) (by decide) (List.mem_of_getElem? (i := 2) rfl) rfl dX7_sort_40 ?_
                refine lv_iload_n C.1 C.2.1 dX7_sort_43 rfl (lv_at hl 2 rfl) ?_
                refine x_iconst C dX7_sort_44 ?_
                refine x_isub C dX7_sort_45 ?_
                refine x_iald C Z 13 rfl (by decide) q91 dX7_sort_46 ?_
                have q103 := (ix_some h99).1
                have h104 := (ix_some h99).2
                clear h99
                refine x_iast (ws2 := wM g aM sMv sMp sMt (up z14.2 z14.1 (z14.2 (z14.1 - 1)), sMs.near) sMc sMr) C Z 13 rfl (by decide) q103 dX7_sort_47 rfl (fun H locs Z => ?_)
                refine x_iinc (lv' := [(2, .int (iI (z14.1 + (-1)))), (0, .ref (aM 0)), (1, .int (iI z2.1))]) C dX7_sort_48 hl (k := 2) rfl (by decide) rfl (fun ls hl => ?_)
                refine lv_goto (tgt := 14) C.1 C.2.1 dX7_sort_51 (by decide) ?_
                cases h104
                exact ih14 (z14.1 + (-1), up z14.2 z14.1 (z14.2 (z14.1 - 1))) _ _ _ (lp_L2 hx14) Z (lv_sub hl [1, 2, 0] rfl)
        exact hL14 n (z2.1, z2.2) _ _ _ hl14 Z (lv_sub hl [1, 2, 0] rfl)
  exact hL2 n (0, sMs.sorted) _ _ _ hl2 Z (lv_sub hl [1, 0] rfl)
