abbrev rmX2_has : Room := { frames := 0, cells := 0, slots := 0, locals := 0 }
theorem yk_X2_has : xY yX2_has RX2 cX2_has 2 (some .boolean) wsX2_has rmX2_has 1 := ⟨⟨_, rfl⟩, by decide +kernel, rfl, rfl⟩
theorem i_X2_X2_has : ∀ w ∈ u_ws RX2 TX2 5, w ∈ wsX2_has := fun _ h => List.mem_cons_of_mem _ (List.mem_append_right _ h)
set_option maxHeartbeats 4000000 in
set_option maxRecDepth 100000 in
theorem k_X2_has (l : Launch) (g : xG) (n : Nat) (aH : Nat → Nat) (sH : HisS) (v1 : Int) (r : Int) (hf : p_X2_has sH v1 = some r) : xMi l yX2_has wsX2_has rmX2_has g [.ref (aH 0), .int (iI v1)] (wH g aH sH) (wH g aH sH) r := by
  refine x_ofW_z (own := RX2) (by decide) rfl rfl (Nat.le_of_ble_eq_true rfl) ?_
  intro p e s m args below meth c ls A QQ C hRet Z hl
  have hl : lv_has ls 2 [(0, .ref (aH 0)), (1, .int (iI v1))] := hl
  unfold p_X2_has at hf
  refine lv_iload_n C.1 C.2.1 dX2_has_0 rfl (lv_at hl 1 rfl) ?_
  have q1 := (ck_some hf).1
  have h2 := (ck_some hf).2
  clear hf
  refine x_if_lt (tgt := 16) C dX2_has_1 (by decide) q1 (fun c3 => ?_) (fun c3 => ?_)
  · have h4 := if_p h2 c3
    clear h2
    refine x_iconst C dX2_has_16 ?_
    have h6 := Option.some.inj h4
    subst h6
    exact hRet _ _ _ _ (x_bool (Or.inl rfl)) Z dX2_has_17
  · have h5 := if_n h2 c3
    clear h2
    refine lv_iload_n C.1 C.2.1 dX2_has_4 rfl (lv_at hl 1 rfl) ?_
    refine lv_aload_n C.1 C.2.1 dX2_has_5 rfl (lv_at hl 0 rfl) ?_
    refine x_get C Z 0 rfl rfl i_X2_X2_has (k := 4) (by decide) (List.mem_of_getElem? (i := 1) rfl) rfl dX2_has_6 ?_
    have q7 := (ck_some h5).1
    have h8 := (ck_some h5).2
    clear h5
    refine x_icmp_ge (tgt := 16) C dX2_has_9 (by decide) q1 q7 (fun c9 => ?_) (fun c9 => ?_)
    · have h10 := if_n h8 c9
      clear h8
      refine x_iconst C dX2_has_16 ?_
      have h12 := Option.some.inj h10
      subst h12
      exact hRet _ _ _ _ (x_bool (Or.inl rfl)) Z dX2_has_17
    · have h11 := if_p h8 c9
      clear h8
      refine x_iconst C dX2_has_12 ?_
      refine lv_goto (tgt := 17) C.1 C.2.1 dX2_has_13 (by decide) ?_
      have h13 := Option.some.inj h11
      subst h13
      exact hRet _ _ _ _ (x_bool (Or.inr rfl)) Z dX2_has_17
abbrev rmX2_wordsIn : Room := { frames := 1, cells := 0, slots := 0, locals := 21 }
theorem yk_X2_wordsIn : xY yX2_wordsIn RX2 cX2_wordsIn 2 (some .int) wsX2_wordsIn rmX2_wordsIn 1 := ⟨⟨_, rfl⟩, by decide +kernel, rfl, rfl⟩
theorem i_X2_X2_wordsIn : ∀ w ∈ u_ws RX2 TX2 5, w ∈ wsX2_wordsIn := fun _ h => List.mem_cons_of_mem _ (List.mem_append_right _ h)
set_option maxHeartbeats 4000000 in
set_option maxRecDepth 100000 in
theorem k_X2_wordsIn (l : Launch) (g : xG) (n : Nat) (aH : Nat → Nat) (sH : HisS) (v1 : Int) (r : Int) (hf : p_X2_wordsIn sH v1 = some r) : xMi l yX2_wordsIn wsX2_wordsIn rmX2_wordsIn g [.ref (aH 0), .int (iI v1)] (wH g aH sH) (wH g aH sH) r := by
  refine x_ofW_i (own := RX2) (by decide) rfl rfl (Nat.le_of_ble_eq_true rfl) ?_
  intro p e s m args below meth c ls A QQ C hRet Z hl
  have hl : lv_has ls 2 [(0, .ref (aH 0)), (1, .int (iI v1))] := hl
  unfold p_X2_wordsIn at hf
  refine lv_aload_n C.1 C.2.1 dX2_wordsIn_0 rfl (lv_at hl 0 rfl) ?_
  refine lv_iload_n C.1 C.2.1 dX2_wordsIn_1 rfl (lv_at hl 1 rfl) ?_
  obtain ⟨r1, hr1, h2⟩ := bd_some hf
  clear hf
  refine x_callV_i_id (As := [.int (iI v1)]) (rest := []) (q0 := 0) C Z (k_X2_has l g n aH sH v1 r1 hr1) gX2_wordsIn_X2_has yk_X2_has ⟨Nat.le_of_ble_eq_true rfl, Nat.le_of_ble_eq_true rfl⟩ rfl rfl ⟨Nat.zero_le _, Nat.zero_le _⟩ hl.1 rfl (Nat.le_of_ble_eq_true rfl) rfl dX2_wordsIn_2 (fun H locs Z => ?_)
  have q3 := (ck_some h2).1
  have h4 := (ck_some h2).2
  clear h2
  refine x_if_eq (tgt := 17) C dX2_wordsIn_5 (by decide) q3 (fun c5 => ?_) (fun c5 => ?_)
  · have h6 := if_p h4 c5
    clear h4
    refine x_iconst C dX2_wordsIn_17 ?_
    have h8 := Option.some.inj h6
    subst h8
    exact hRet _ _ _ _ Z dX2_wordsIn_18
  · have h7 := if_n h4 c5
    clear h4
    refine lv_aload_n C.1 C.2.1 dX2_wordsIn_8 rfl (lv_at hl 0 rfl) ?_
    refine x_get C Z 0 rfl rfl i_X2_X2_wordsIn (k := 2) (by decide) (List.mem_of_getElem? (i := 1) rfl) rfl dX2_wordsIn_9 ?_
    refine lv_iload_n C.1 C.2.1 dX2_wordsIn_12 rfl (lv_at hl 1 rfl) ?_
    have q9 := (ix_some h7).1
    have h10 := (ix_some h7).2
    clear h7
    refine x_iald C Z 3 rfl (by decide) q9 dX2_wordsIn_13 ?_
    refine lv_goto (tgt := 18) C.1 C.2.1 dX2_wordsIn_14 (by decide) ?_
    have h11 := Option.some.inj h10
    subst h11
    exact hRet _ _ _ _ Z dX2_wordsIn_18
abbrev rmX2_hasRoomFor : Room := { frames := 0, cells := 0, slots := 0, locals := 0 }
theorem yk_X2_hasRoomFor : xY yX2_hasRoomFor RX2 cX2_hasRoomFor 2 (some .boolean) wsX2_hasRoomFor rmX2_hasRoomFor 1 := ⟨⟨_, rfl⟩, by decide +kernel, rfl, rfl⟩
theorem i_X2_X2_hasRoomFor : ∀ w ∈ u_ws RX2 TX2 5, w ∈ wsX2_hasRoomFor := fun _ h => List.mem_cons_of_mem _ (List.mem_append_right _ h)
set_option maxHeartbeats 4000000 in
set_option maxRecDepth 100000 in
theorem k_X2_hasRoomFor (l : Launch) (g : xG) (n : Nat) (aH : Nat → Nat) (sH : HisS) (v1 : Int) (r : Int) (hf : p_X2_hasRoomFor sH v1 = some r) : xMi l yX2_hasRoomFor wsX2_hasRoomFor rmX2_hasRoomFor g [.ref (aH 0), .int (iI v1)] (wH g aH sH) (wH g aH sH) r := by
  refine x_ofW_z (own := RX2) (by decide) rfl rfl (Nat.le_of_ble_eq_true rfl) ?_
  intro p e s m args below meth c ls A QQ C hRet Z hl
  have hl : lv_has ls 2 [(0, .ref (aH 0)), (1, .int (iI v1))] := hl
  unfold p_X2_hasRoomFor at hf
  refine lv_iload_n C.1 C.2.1 dX2_hasRoomFor_0 rfl (lv_at hl 1 rfl) ?_
  refine x_sipush C dX2_hasRoomFor_1 (by decide) ?_
  refine lv_aload_n C.1 C.2.1 dX2_hasRoomFor_4 rfl (lv_at hl 0 rfl) ?_
  refine x_get C Z 0 rfl rfl i_X2_X2_hasRoomFor (k := 4) (by decide) (List.mem_of_getElem? (i := 1) rfl) rfl dX2_hasRoomFor_5 ?_
  refine x_isub C dX2_hasRoomFor_8 ?_
  have q1 := (ck_some hf).1
  have h2 := (ck_some hf).2
  clear hf
  have q3 := (ck_some h2).1
  have h4 := (ck_some h2).2
  clear h2
  refine x_icmp_gt (tgt := 16) C dX2_hasRoomFor_9 (by decide) q1 q3 (fun c5 => ?_) (fun c5 => ?_)
  · have h6 := if_p h4 c5
    clear h4
    refine x_iconst C dX2_hasRoomFor_16 ?_
    have h8 := Option.some.inj h6
    subst h8
    exact hRet _ _ _ _ (x_bool (Or.inl rfl)) Z dX2_hasRoomFor_17
  · have h7 := if_n h4 c5
    clear h4
    refine x_iconst C dX2_hasRoomFor_12 ?_
    refine lv_goto (tgt := 17) C.1 C.2.1 dX2_hasRoomFor_13 (by decide) ?_
    have h9 := Option.some.inj h7
    subst h9
    exact hRet _ _ _ _ (x_bool (Or.inr rfl)) Z dX2_hasRoomFor_17
abbrev rmX2_grow : Room := { frames := 1, cells := 0, slots := 0, locals := 21 }
theorem yk_X2_grow : xY yX2_grow RX2 cX2_grow 4 (some .int) wsX2_grow rmX2_grow 2 := ⟨⟨_, rfl⟩, by decide +kernel, rfl, rfl⟩
theorem i_X2_X2_grow : ∀ w ∈ u_ws RX2 TX2 5, w ∈ wsX2_grow := fun _ h => List.mem_cons_of_mem _ (List.mem_append_right _ h)
set_option maxHeartbeats 4000000 in
set_option maxRecDepth 100000 in
theorem k_X2_grow (l : Launch) (g : xG) (n : Nat) (aH : Nat → Nat) (sH : HisS) (v1 : Int) (v2 : Int) (r : Int × HisS) (hf : p_X2_grow sH v1 v2 = some r) : xMi l yX2_grow wsX2_grow rmX2_grow g [.ref (aH 0), .int (iI v1), .int (iI v2)] (wH g aH sH) (wH g aH r.2) r.1 := by
  refine x_ofW_i (own := RX2) (by decide) rfl rfl (Nat.le_of_ble_eq_true rfl) ?_
  intro p e s m args below meth c ls A QQ C hRet Z hl
  have hl : lv_has ls 4 [(0, .ref (aH 0)), (1, .int (iI v1)), (2, .int (iI v2))] := hl
  unfold p_X2_grow at hf
  have hJ97 : ∀ (sH_97 : HisS) (t1_97 : Int) (t2_97 : Int) (t3_97 : Int) (H : Heap) (locs : List Loc) (ls : Array Slot), p_X2_grow_j97 sH_97 t1_97 t2_97 t3_97 = some r → xSt g A s (wH g aH sH_97) H locs → lv_has ls 4 [(0, .ref (aH 0))] → W p l e rmX2_grow s m args below meth c H locs 0 0 QQ (F0 m 97 ls [.int (iI t3_97), .int (iI t2_97), .int (iI t1_97), .ref (aH 4)]) := by
    intro sH_97 t1_97 t2_97 t3_97 H locs ls hj97 Z hl
    unfold p_X2_grow_j97 at hj97
    refine x_iadd C dX2_grow_97 ?_
    have q1 := (ix_some hj97).1
    have h2 := (ix_some hj97).2
    clear hj97
    refine x_iast (ws2 := wH g aH (sH_97.parents, sH_97.steps, sH_97.wordCounts, up sH_97.letterCounts t1_97 (t2_97 + t3_97), sH_97.size)) C Z 4 rfl (by decide) q1 dX2_grow_98 rfl (fun H locs Z => ?_)
    refine lv_aload_n C.1 C.2.1 dX2_grow_99 rfl (lv_at hl 0 rfl) ?_
    refine lv_dup C.1 C.2.1 dX2_grow_100 rfl ?_
    refine x_get C Z 0 rfl rfl i_X2_X2_grow (k := 4) (by decide) (List.mem_of_getElem? (i := 2) rfl) rfl dX2_grow_101 ?_
    refine x_iconst C dX2_grow_104 ?_
    refine x_iadd C dX2_grow_105 ?_
    refine x_put (ws2 := wH g aH (sH_97.parents, sH_97.steps, sH_97.wordCounts, up sH_97.letterCounts t1_97 (t2_97 + t3_97), sH_97.size + 1)) C Z 0 rfl rfl i_X2_X2_grow tyX2_ok nmX2 (k := 4) (by decide) (List.mem_of_getElem? (i := 2) rfl) rfl rfl (Nat.le_of_ble_eq_true rfl) dX2_grow_106 rfl (fun H locs Z => ?_)
    refine lv_aload_n C.1 C.2.1 dX2_grow_109 rfl (lv_at hl 0 rfl) ?_
    refine x_get C Z 0 rfl rfl i_X2_X2_grow (k := 4) (by decide) (List.mem_of_getElem? (i := 2) rfl) rfl dX2_grow_110 ?_
    refine x_iconst C dX2_grow_113 ?_
    refine x_isub C dX2_grow_114 ?_
    have h3 := Option.some.inj h2
    subst h3
    exact hRet _ _ _ _ Z dX2_grow_115
  have hJ72 : ∀ (sH_72 : HisS) (v1_72 : Int) (v3_72 : Int) (t1_72 : Int) (t2_72 : Int) (t3_72 : Int) (H : Heap) (locs : List Loc) (ls : Array Slot), p_X2_grow_j72 sH_72 v1_72 v3_72 t1_72 t2_72 t3_72 = some r → xSt g A s (wH g aH sH_72) H locs → lv_has ls 4 [(0, .ref (aH 0)), (1, .int (iI v1_72)), (3, .int (iI v3_72))] → W p l e rmX2_grow s m args below meth c H locs 0 0 QQ (F0 m 72 ls [.int (iI t3_72), .int (iI t2_72), .int (iI t1_72), .ref (aH 3)]) := by
    intro sH_72 v1_72 v3_72 t1_72 t2_72 t3_72 H locs ls hj72 Z hl
    unfold p_X2_grow_j72 at hj72
    refine x_iadd C dX2_grow_72 ?_
    have q4 := (ix_some hj72).1
    have h5 := (ix_some hj72).2
    clear hj72
    refine x_iast (ws2 := wH g aH (sH_72.parents, sH_72.steps, up sH_72.wordCounts t1_72 (t2_72 + t3_72), sH_72.letterCounts, sH_72.size)) C Z 3 rfl (by decide) q4 dX2_grow_73 rfl (fun H locs Z => ?_)
    refine lv_aload_n C.1 C.2.1 dX2_grow_74 rfl (lv_at hl 0 rfl) ?_
    refine x_get C Z 0 rfl rfl i_X2_X2_grow (k := 3) (by decide) (List.mem_of_getElem? (i := 5) rfl) rfl dX2_grow_75 ?_
    refine lv_aload_n C.1 C.2.1 dX2_grow_78 rfl (lv_at hl 0 rfl) ?_
    refine x_get C Z 0 rfl rfl i_X2_X2_grow (k := 4) (by decide) (List.mem_of_getElem? (i := 2) rfl) rfl dX2_grow_79 ?_
    refine lv_aload_n C.1 C.2.1 dX2_grow_82 rfl (lv_at hl 0 rfl) ?_
    refine x_get C Z 0 rfl rfl i_X2_X2_grow (k := 3) (by decide) (List.mem_of_getElem? (i := 5) rfl) rfl dX2_grow_83 ?_
    refine lv_iload_n C.1 C.2.1 dX2_grow_86 rfl (lv_at hl 1 rfl) ?_
    have q6 := (ix_some h5).1
    have h7 := (ix_some h5).2
    clear h5
    refine x_iald C Z 4 rfl (by decide) q6 dX2_grow_87 ?_
    refine lv_iload_n C.1 C.2.1 dX2_grow_88 rfl (lv_at hl 2 rfl) ?_
    have q8 := (ck_some h7).1
    have h9 := (ck_some h7).2
    clear h7
    refine x_if_eq (tgt := 96) C dX2_grow_89 (by decide) q8 (fun c10 => ?_) (fun c10 => ?_)
    · have h11 := if_p h9 c10
      clear h9
      refine x_iconst C dX2_grow_96 ?_
      exact hJ97 (sH_72.parents, sH_72.steps, up sH_72.wordCounts t1_72 (t2_72 + t3_72), sH_72.letterCounts, sH_72.size) sH_72.size (sH_72.letterCounts v1_72) 1 _ _ _ h11 Z (lv_sub hl [0] rfl)
    · have h12 := if_n h9 c10
      clear h9
      refine x_iconst C dX2_grow_92 ?_
      refine lv_goto (tgt := 97) C.1 C.2.1 dX2_grow_93 (by decide) ?_
      exact hJ97 (sH_72.parents, sH_72.steps, up sH_72.wordCounts t1_72 (t2_72 + t3_72), sH_72.letterCounts, sH_72.size) sH_72.size (sH_72.letterCounts v1_72) 0 _ _ _ h12 Z (lv_sub hl [0] rfl)
  have hJ28 : ∀ (sH_28 : HisS) (v1_28 : Int) (v2_28 : Int) (t0_28 : Int) (H : Heap) (locs : List Loc) (ls : Array Slot), p_X2_grow_j28 sH_28 v1_28 v2_28 t0_28 = some r → xSt g A s (wH g aH sH_28) H locs → lv_has ls 4 [(0, .ref (aH 0)), (1, .int (iI v1_28)), (2, .int (iI v2_28))] → W p l e rmX2_grow s m args below meth c H locs 0 0 QQ (F0 m 28 ls [.int (iI t0_28)]) := by
    intro sH_28 v1_28 v2_28 t0_28 H locs ls hj28 Z hl
    unfold p_X2_grow_j28 at hj28
    refine lv_istore_n (lv' := [(3, .int (iI t0_28)), (0, .ref (aH 0)), (1, .int (iI v1_28)), (2, .int (iI v2_28))]) C.1 C.2.1 dX2_grow_28 rfl hl (by decide) rfl (fun ls hl => ?_)
    refine lv_aload_n C.1 C.2.1 dX2_grow_29 rfl (lv_at hl 1 rfl) ?_
    refine x_get C Z 0 rfl rfl i_X2_X2_grow (k := 0) (by decide) (List.mem_of_getElem? (i := 1) rfl) rfl dX2_grow_30 ?_
    refine lv_aload_n C.1 C.2.1 dX2_grow_33 rfl (lv_at hl 1 rfl) ?_
    refine x_get C Z 0 rfl rfl i_X2_X2_grow (k := 4) (by decide) (List.mem_of_getElem? (i := 2) rfl) rfl dX2_grow_34 ?_
    refine lv_iload_n C.1 C.2.1 dX2_grow_37 rfl (lv_at hl 2 rfl) ?_
    have q13 := (ix_some hj28).1
    have h14 := (ix_some hj28).2
    clear hj28
    refine x_iast (ws2 := wH g aH (up sH_28.parents sH_28.size v1_28, sH_28.steps, sH_28.wordCounts, sH_28.letterCounts, sH_28.size)) C Z 1 rfl (by decide) q13 dX2_grow_38 rfl (fun H locs Z => ?_)
    refine lv_aload_n C.1 C.2.1 dX2_grow_39 rfl (lv_at hl 1 rfl) ?_
    refine x_get C Z 0 rfl rfl i_X2_X2_grow (k := 1) (by decide) (List.mem_of_getElem? (i := 3) rfl) rfl dX2_grow_40 ?_
    refine lv_aload_n C.1 C.2.1 dX2_grow_43 rfl (lv_at hl 1 rfl) ?_
    refine x_get C Z 0 rfl rfl i_X2_X2_grow (k := 4) (by decide) (List.mem_of_getElem? (i := 2) rfl) rfl dX2_grow_44 ?_
    refine lv_iload_n C.1 C.2.1 dX2_grow_47 rfl (lv_at hl 3 rfl) ?_
    refine x_iast (ws2 := wH g aH (up sH_28.parents sH_28.size v1_28, up sH_28.steps sH_28.size v2_28, sH_28.wordCounts, sH_28.letterCounts, sH_28.size)) C Z 2 rfl (by decide) q13 dX2_grow_48 rfl (fun H locs Z => ?_)
    refine lv_aload_n C.1 C.2.1 dX2_grow_49 rfl (lv_at hl 1 rfl) ?_
    refine x_get C Z 0 rfl rfl i_X2_X2_grow (k := 2) (by decide) (List.mem_of_getElem? (i := 4) rfl) rfl dX2_grow_50 ?_
    refine lv_aload_n C.1 C.2.1 dX2_grow_53 rfl (lv_at hl 1 rfl) ?_
    refine x_get C Z 0 rfl rfl i_X2_X2_grow (k := 4) (by decide) (List.mem_of_getElem? (i := 2) rfl) rfl dX2_grow_54 ?_
    refine lv_aload_n C.1 C.2.1 dX2_grow_57 rfl (lv_at hl 1 rfl) ?_
    refine x_get C Z 0 rfl rfl i_X2_X2_grow (k := 2) (by decide) (List.mem_of_getElem? (i := 4) rfl) rfl dX2_grow_58 ?_
    refine lv_iload_n C.1 C.2.1 dX2_grow_61 rfl (lv_at hl 2 rfl) ?_
    have q15 := (ix_some h14).1
    have h16 := (ix_some h14).2
    clear h14
    refine x_iald C Z 3 rfl (by decide) q15 dX2_grow_62 ?_
    refine lv_iload_n C.1 C.2.1 dX2_grow_63 rfl (lv_at hl 0 rfl) ?_
    have q17 := (ck_some h16).1
    have h18 := (ck_some h16).2
    clear h16
    refine x_if_eq (tgt := 71) C dX2_grow_64 (by decide) q17 (fun c19 => ?_) (fun c19 => ?_)
    · have h20 := if_p h18 c19
      clear h18
      refine x_iconst C dX2_grow_71 ?_
      exact hJ72 (up sH_28.parents sH_28.size v1_28, up sH_28.steps sH_28.size v2_28, sH_28.wordCounts, sH_28.letterCounts, sH_28.size) v1_28 t0_28 sH_28.size (sH_28.wordCounts v1_28) 0 _ _ _ h20 Z (lv_sub hl [1, 2, 0] rfl)
    · have h21 := if_n h18 c19
      clear h18
      refine x_iconst C dX2_grow_67 ?_
      refine lv_goto (tgt := 72) C.1 C.2.1 dX2_grow_68 (by decide) ?_
      exact hJ72 (up sH_28.parents sH_28.size v1_28, up sH_28.steps sH_28.size v2_28, sH_28.wordCounts, sH_28.letterCounts, sH_28.size) v1_28 t0_28 sH_28.size (sH_28.wordCounts v1_28) 1 _ _ _ h21 Z (lv_sub hl [1, 2, 0] rfl)
  refine lv_aload_n C.1 C.2.1 dX2_grow_0 rfl (lv_at hl 0 rfl) ?_
  refine lv_iload_n C.1 C.2.1 dX2_grow_1 rfl (lv_at hl 1 rfl) ?_
  obtain ⟨r22, hr22, h23⟩ := bd_some hf
  clear hf
  refine x_callV_i_id (As := [.int (iI v1)]) (rest := []) (q0 := 0) C Z (k_X2_has l g n aH sH v1 r22 hr22) gX2_grow_X2_has yk_X2_has ⟨Nat.le_of_ble_eq_true rfl, Nat.le_of_ble_eq_true rfl⟩ rfl rfl ⟨Nat.zero_le _, Nat.zero_le _⟩ hl.1 rfl (Nat.le_of_ble_eq_true rfl) rfl dX2_grow_2 (fun H locs Z => ?_)
  have q24 := (ck_some h23).1
  have h25 := (ck_some h23).2
  clear h23
  refine x_if_eq (tgt := 16) C dX2_grow_5 (by decide) q24 (fun c26 => ?_) (fun c26 => ?_)
  · have h27 := if_p h25 c26
    clear h25
    refine lv_iload_n C.1 C.2.1 dX2_grow_16 rfl (lv_at hl 1 rfl) ?_
    have h29 := Option.some.inj h27
    subst h29
    exact hRet _ _ _ _ Z dX2_grow_17
  · have h28 := if_n h25 c26
    clear h25
    refine lv_aload_n C.1 C.2.1 dX2_grow_8 rfl (lv_at hl 0 rfl) ?_
    refine x_iconst C dX2_grow_9 ?_
    obtain ⟨r30, hr30, h31⟩ := bd_some h28
    clear h28
    refine x_callV_i_id (As := [.int (iI 1)]) (rest := []) (q0 := 0) C Z (k_X2_hasRoomFor l g n aH sH 1 r30 hr30) gX2_grow_X2_hasRoomFor yk_X2_hasRoomFor ⟨Nat.le_of_ble_eq_true rfl, Nat.le_of_ble_eq_true rfl⟩ rfl rfl ⟨Nat.zero_le _, Nat.zero_le _⟩ hl.1 rfl (Nat.le_of_ble_eq_true rfl) rfl dX2_grow_10 (fun H locs Z => ?_)
    have q32 := (ck_some h31).1
    have h33 := (ck_some h31).2
    clear h31
    refine x_if_ne (tgt := 18) C dX2_grow_13 (by decide) q32 (fun c34 => ?_) (fun c34 => ?_)
    · have h35 := if_n h33 c34
      clear h33
      refine lv_iload_n C.1 C.2.1 dX2_grow_18 rfl (lv_at hl 2 rfl) ?_
      refine x_iconst C dX2_grow_19 ?_
      have q37 := (ck_some h35).1
      have h38 := (ck_some h35).2
      clear h35
      refine x_icmp_ne (tgt := 27) C dX2_grow_20 (by decide) q37 (by decide) (fun c39 => ?_) (fun c39 => ?_)
      · have h40 := if_n h38 c39
        clear h38
        refine x_iconst C dX2_grow_27 ?_
        exact hJ28 sH v1 v2 0 _ _ _ h40 Z (lv_sub hl [0, 1, 2] rfl)
      · have h41 := if_p h38 c39
        clear h38
        refine x_iconst C dX2_grow_23 ?_
        refine lv_goto (tgt := 28) C.1 C.2.1 dX2_grow_24 (by decide) ?_
        exact hJ28 sH v1 v2 1 _ _ _ h41 Z (lv_sub hl [0, 1, 2] rfl)
    · have h36 := if_p h33 c34
      clear h33
      refine lv_iload_n C.1 C.2.1 dX2_grow_16 rfl (lv_at hl 1 rfl) ?_
      have h42 := Option.some.inj h36
      subst h42
      exact hRet _ _ _ _ Z dX2_grow_17
abbrev rmX6_begin : Room := { frames := 2, cells := 0, slots := 0, locals := 44 }
theorem yk_X6_begin : xY yX6_begin RX6 cX6_begin 1 (some .int) wsX6_begin rmX6_begin 0 := ⟨⟨_, rfl⟩, by decide +kernel, rfl, rfl⟩
theorem i_X2_X6_begin : ∀ w ∈ u_ws RX2 TX2 5, w ∈ wsX6_begin := fun _ h => List.mem_cons_of_mem _ (List.mem_append_right _ h)
theorem i_X6_X6_begin : ∀ w ∈ u_ws RX6 TX6 11, w ∈ wsX6_begin := fun _ h => List.mem_cons_of_mem _ (List.mem_append_left _ (List.mem_append_right _ h))
set_option maxHeartbeats 4000000 in
set_option maxRecDepth 100000 in
theorem k_X6_begin (l : Launch) (g : xG) (n : Nat) (aF : Nat → Nat) (aH : Nat → Nat) (aP : Nat → Nat) (aT : Nat → Nat) (aC : Nat → Nat) (aK : Nat → Nat) (aB : Nat → Nat) (aQ : Nat → Nat) (aU : Nat → Nat) (aV : Nat → Nat) (aS : Nat → Nat) (aR : Nat → Nat) (rr : Nat → Nat) (sF : Int) (sH : HisS) (sP : PadS) (sT : TxtS) (sC : ClsS) (sK : SwpS) (sB : BegS) (sQ : TxtS) (sU : TxtS) (sV : TxtS) (sS : SwpS) (sR : SwpS) (r : Int × Int × HisS) (hf : p_X6_begin sF sH = some r) : xMi l yX6_begin wsX6_begin rmX6_begin g [.ref (aF 0)] ((wF g aF (aH 0) (aP 0) (aT 0) (aC 0) (aB 0) (aQ 0) (aU 0) (aV 0) (aS 0) (aR 0) sF ++ (wH g aH sH ++ (wP g aP sP ++ (wT g aT sT ++ (wC g aC (aK 0) rr sC ++ (wS g aK sK ++ (wB g aB sB ++ (wT g aQ sQ ++ (wT g aU sU ++ (wT g aV sV ++ (wS g aS sS ++ wS g aR sR))))))))))) ++ wR g rr sC.classOf) ((wF g aF (aH 0) (aP 0) (aT 0) (aC 0) (aB 0) (aQ 0) (aU 0) (aV 0) (aS 0) (aR 0) r.2.1 ++ (wH g aH r.2.2 ++ (wP g aP sP ++ (wT g aT sT ++ (wC g aC (aK 0) rr sC ++ (wS g aK sK ++ (wB g aB sB ++ (wT g aQ sQ ++ (wT g aU sU ++ (wT g aV sV ++ (wS g aS sS ++ wS g aR sR))))))))))) ++ wR g rr sC.classOf) r.1 := by
  refine x_ofW_i (own := RX6) (by decide) rfl rfl (Nat.le_of_ble_eq_true rfl) ?_
  intro p e s m args below meth c ls A QQ C hRet Z hl
  have hl : lv_has ls 1 [(0, .ref (aF 0))] := hl
  unfold p_X6_begin at hf
  refine lv_aload_n C.1 C.2.1 dX6_begin_0 rfl (lv_at hl 0 rfl) ?_
  refine x_get C Z 0 rfl rfl i_X6_X6_begin (k := 0) (by decide) (List.mem_of_getElem? (i := 1) rfl) rfl dX6_begin_1 ?_
  refine lv_aload_n C.1 C.2.1 dX6_begin_4 rfl (lv_at hl 0 rfl) ?_
  refine x_get C Z 0 rfl rfl i_X6_X6_begin (k := 10) (by decide) (List.mem_of_getElem? (i := 2) rfl) rfl dX6_begin_5 ?_
  obtain ⟨r1, hr1, h2⟩ := bd_some hf
  clear hf
  refine x_callV_i_Q (As := [.int (iI sF)]) (rest := []) (q0 := 0) (X2 := (wF g aF (aH 0) (aP 0) (aT 0) (aC 0) (aB 0) (aQ 0) (aU 0) (aV 0) (aS 0) (aR 0) sF ++ (wH g aH sH ++ (wP g aP sP ++ (wT g aT sT ++ (wC g aC (aK 0) rr sC ++ (wS g aK sK ++ (wB g aB sB ++ (wT g aQ sQ ++ (wT g aU sU ++ (wT g aV sV ++ (wS g aS sS ++ wS g aR sR)))))))))))) C Z fr_FHPTCKBQUVSR_1 (k_X2_wordsIn l g n aH sH sF r1 hr1) gX6_begin_X2_wordsIn yk_X2_wordsIn ⟨Nat.le_of_ble_eq_true rfl, Nat.le_of_ble_eq_true rfl⟩ rfl rfl ⟨Nat.zero_le _, Nat.zero_le _⟩ hl.1 rfl (Nat.le_of_ble_eq_true rfl) rfl dX6_begin_8 (fun H locs Z => ?_)
  refine x_bipush C dX6_begin_11 (by decide) ?_
  have q3 := (ck_some h2).1
  have h4 := (ck_some h2).2
  clear h2
  refine x_icmp_ge (tgt := 27) C dX6_begin_13 (by decide) q3 (by decide) (fun c5 => ?_) (fun c5 => ?_)
  · have h6 := if_n h4 c5
    clear h4
    refine x_bipush C dX6_begin_27 (by decide) ?_
    have h8 := Option.some.inj h6
    subst h8
    exact hRet _ _ _ _ Z dX6_begin_29
  · have h7 := if_p h4 c5
    clear h4
    refine lv_aload_n C.1 C.2.1 dX6_begin_16 rfl (lv_at hl 0 rfl) ?_
    refine x_get C Z 0 rfl rfl i_X6_X6_begin (k := 0) (by decide) (List.mem_of_getElem? (i := 1) rfl) rfl dX6_begin_17 ?_
    refine x_iconst C dX6_begin_20 ?_
    obtain ⟨r9, hr9, h10⟩ := bd_some h7
    clear h7
    refine x_callV_i_Q (As := [.int (iI 1)]) (rest := []) (q0 := 0) (X2 := (wF g aF (aH 0) (aP 0) (aT 0) (aC 0) (aB 0) (aQ 0) (aU 0) (aV 0) (aS 0) (aR 0) sF ++ (wH g aH sH ++ (wP g aP sP ++ (wT g aT sT ++ (wC g aC (aK 0) rr sC ++ (wS g aK sK ++ (wB g aB sB ++ (wT g aQ sQ ++ (wT g aU sU ++ (wT g aV sV ++ (wS g aS sS ++ wS g aR sR)))))))))))) C Z fr_FHPTCKBQUVSR_1 (k_X2_hasRoomFor l g n aH sH 1 r9 hr9) gX6_begin_X2_hasRoomFor yk_X2_hasRoomFor ⟨Nat.le_of_ble_eq_true rfl, Nat.le_of_ble_eq_true rfl⟩ rfl rfl ⟨Nat.zero_le _, Nat.zero_le _⟩ hl.1 rfl (Nat.le_of_ble_eq_true rfl) rfl dX6_begin_21 (fun H locs Z => ?_)
    have q11 := (ck_some h10).1
    have h12 := (ck_some h10).2
    clear h10
    refine x_if_ne (tgt := 30) C dX6_begin_24 (by decide) q11 (fun c13 => ?_) (fun c13 => ?_)
    · have h14 := if_n h12 c13
      clear h12
      refine lv_aload_n C.1 C.2.1 dX6_begin_30 rfl (lv_at hl 0 rfl) ?_
      refine lv_aload_n C.1 C.2.1 dX6_begin_31 rfl (lv_at hl 0 rfl) ?_
      refine x_get C Z 0 rfl rfl i_X6_X6_begin (k := 0) (by decide) (List.mem_of_getElem? (i := 1) rfl) rfl dX6_begin_32 ?_
      refine lv_aload_n C.1 C.2.1 dX6_begin_35 rfl (lv_at hl 0 rfl) ?_
      refine x_get C Z 0 rfl rfl i_X6_X6_begin (k := 10) (by decide) (List.mem_of_getElem? (i := 2) rfl) rfl dX6_begin_36 ?_
      refine x_iconst C dX6_begin_39 ?_
      obtain ⟨r16, hr16, h17⟩ := bd_some h14
      clear h14
      refine x_callV_i_Q (As := [.int (iI sF), .int (iI (-1))]) (rest := [.ref (aF 0)]) (q0 := 0) (X2 := (wF g aF (aH 0) (aP 0) (aT 0) (aC 0) (aB 0) (aQ 0) (aU 0) (aV 0) (aS 0) (aR 0) sF ++ (wH g aH r16.2 ++ (wP g aP sP ++ (wT g aT sT ++ (wC g aC (aK 0) rr sC ++ (wS g aK sK ++ (wB g aB sB ++ (wT g aQ sQ ++ (wT g aU sU ++ (wT g aV sV ++ (wS g aS sS ++ wS g aR sR)))))))))))) C Z fr_FHPTCKBQUVSR_1 (k_X2_grow l g n aH sH sF (-1) r16 hr16) gX6_begin_X2_grow yk_X2_grow ⟨Nat.le_of_ble_eq_true rfl, Nat.le_of_ble_eq_true rfl⟩ rfl rfl ⟨Nat.zero_le _, Nat.zero_le _⟩ hl.1 rfl (Nat.le_of_ble_eq_true rfl) rfl dX6_begin_40 (fun H locs Z => ?_)
      refine x_put (ws2 := (wF g aF (aH 0) (aP 0) (aT 0) (aC 0) (aB 0) (aQ 0) (aU 0) (aV 0) (aS 0) (aR 0) r16.1 ++ (wH g aH r16.2 ++ (wP g aP sP ++ (wT g aT sT ++ (wC g aC (aK 0) rr sC ++ (wS g aK sK ++ (wB g aB sB ++ (wT g aQ sQ ++ (wT g aU sU ++ (wT g aV sV ++ (wS g aS sS ++ wS g aR sR))))))))))) ++ wR g rr sC.classOf) C Z 0 rfl rfl i_X6_X6_begin tyX6_ok nmX6 (k := 10) (by decide) (List.mem_of_getElem? (i := 2) rfl) rfl rfl (Nat.le_of_ble_eq_true rfl) dX6_begin_43 rfl (fun H locs Z => ?_)
      refine lv_aload_n C.1 C.2.1 dX6_begin_46 rfl (lv_at hl 0 rfl) ?_
      refine x_get C Z 0 rfl rfl i_X6_X6_begin (k := 10) (by decide) (List.mem_of_getElem? (i := 2) rfl) rfl dX6_begin_47 ?_
      have h18 := Option.some.inj h17
      subst h18
      exact hRet _ _ _ _ Z dX6_begin_50
    · have h15 := if_p h12 c13
      clear h12
      refine x_bipush C dX6_begin_27 (by decide) ?_
      have h19 := Option.some.inj h15
      subst h19
      exact hRet _ _ _ _ Z dX6_begin_29
abbrev rmX6_isLetter : Room := { frames := 0, cells := 0, slots := 0, locals := 0 }
theorem yk_X6_isLetter : xY yX6_isLetter RX6 cX6_isLetter 1 (some .boolean) wsX6_isLetter rmX6_isLetter 1 := ⟨⟨_, rfl⟩, by decide +kernel, rfl, rfl⟩
set_option maxHeartbeats 4000000 in
set_option maxRecDepth 100000 in
theorem k_X6_isLetter (l : Launch) (g : xG) (n : Nat) (v0 : Int) (r : Int) (hf : p_X6_isLetter v0 = some r) : xMi l yX6_isLetter wsX6_isLetter rmX6_isLetter g [.int (iI v0)] ([]) ([]) r := by
  refine x_ofW_z (own := RX6) (by decide) rfl rfl (Nat.le_of_ble_eq_true rfl) ?_
  intro p e s m args below meth c ls A QQ C hRet Z hl
  have hl : lv_has ls 1 [(0, .int (iI v0))] := hl
  unfold p_X6_isLetter at hf
  refine lv_iload_n C.1 C.2.1 dX6_isLetter_0 rfl (lv_at hl 0 rfl) ?_
  have q1 := (ck_some hf).1
  have h2 := (ck_some hf).2
  clear hf
  refine x_if_lt (tgt := 14) C dX6_isLetter_1 (by decide) q1 (fun c3 => ?_) (fun c3 => ?_)
  · have h4 := if_p h2 c3
    clear h2
    refine x_iconst C dX6_isLetter_14 ?_
    have h6 := Option.some.inj h4
    subst h6
    exact hRet _ _ _ _ (x_bool (Or.inl rfl)) Z dX6_isLetter_15
  · have h5 := if_n h2 c3
    clear h2
    refine lv_iload_n C.1 C.2.1 dX6_isLetter_4 rfl (lv_at hl 0 rfl) ?_
    refine x_bipush C dX6_isLetter_5 (by decide) ?_
    refine x_icmp_ge (tgt := 14) C dX6_isLetter_7 (by decide) q1 (by decide) (fun c7 => ?_) (fun c7 => ?_)
    · have h8 := if_n h5 c7
      clear h5
      refine x_iconst C dX6_isLetter_14 ?_
      have h10 := Option.some.inj h8
      subst h10
      exact hRet _ _ _ _ (x_bool (Or.inl rfl)) Z dX6_isLetter_15
    · have h9 := if_p h5 c7
      clear h5
      refine x_iconst C dX6_isLetter_10 ?_
      refine lv_goto (tgt := 15) C.1 C.2.1 dX6_isLetter_11 (by decide) ?_
      have h11 := Option.some.inj h9
      subst h11
      exact hRet _ _ _ _ (x_bool (Or.inr rfl)) Z dX6_isLetter_15
abbrev rmX2_lettersIn : Room := { frames := 1, cells := 0, slots := 0, locals := 21 }
theorem yk_X2_lettersIn : xY yX2_lettersIn RX2 cX2_lettersIn 2 (some .int) wsX2_lettersIn rmX2_lettersIn 1 := ⟨⟨_, rfl⟩, by decide +kernel, rfl, rfl⟩
theorem i_X2_X2_lettersIn : ∀ w ∈ u_ws RX2 TX2 5, w ∈ wsX2_lettersIn := fun _ h => List.mem_cons_of_mem _ (List.mem_append_right _ h)
set_option maxHeartbeats 4000000 in
set_option maxRecDepth 100000 in
theorem k_X2_lettersIn (l : Launch) (g : xG) (n : Nat) (aH : Nat → Nat) (sH : HisS) (v1 : Int) (r : Int) (hf : p_X2_lettersIn sH v1 = some r) : xMi l yX2_lettersIn wsX2_lettersIn rmX2_lettersIn g [.ref (aH 0), .int (iI v1)] (wH g aH sH) (wH g aH sH) r := by
  refine x_ofW_i (own := RX2) (by decide) rfl rfl (Nat.le_of_ble_eq_true rfl) ?_
  intro p e s m args below meth c ls A QQ C hRet Z hl
  have hl : lv_has ls 2 [(0, .ref (aH 0)), (1, .int (iI v1))] := hl
  unfold p_X2_lettersIn at hf
  refine lv_aload_n C.1 C.2.1 dX2_lettersIn_0 rfl (lv_at hl 0 rfl) ?_
  refine lv_iload_n C.1 C.2.1 dX2_lettersIn_1 rfl (lv_at hl 1 rfl) ?_
  obtain ⟨r1, hr1, h2⟩ := bd_some hf
  clear hf
  refine x_callV_i_id (As := [.int (iI v1)]) (rest := []) (q0 := 0) C Z (k_X2_has l g n aH sH v1 r1 hr1) gX2_lettersIn_X2_has yk_X2_has ⟨Nat.le_of_ble_eq_true rfl, Nat.le_of_ble_eq_true rfl⟩ rfl rfl ⟨Nat.zero_le _, Nat.zero_le _⟩ hl.1 rfl (Nat.le_of_ble_eq_true rfl) rfl dX2_lettersIn_2 (fun H locs Z => ?_)
  have q3 := (ck_some h2).1
  have h4 := (ck_some h2).2
  clear h2
  refine x_if_eq (tgt := 17) C dX2_lettersIn_5 (by decide) q3 (fun c5 => ?_) (fun c5 => ?_)
  · have h6 := if_p h4 c5
    clear h4
    refine x_iconst C dX2_lettersIn_17 ?_
    have h8 := Option.some.inj h6
    subst h8
    exact hRet _ _ _ _ Z dX2_lettersIn_18
  · have h7 := if_n h4 c5
    clear h4
    refine lv_aload_n C.1 C.2.1 dX2_lettersIn_8 rfl (lv_at hl 0 rfl) ?_
    refine x_get C Z 0 rfl rfl i_X2_X2_lettersIn (k := 3) (by decide) (List.mem_of_getElem? (i := 1) rfl) rfl dX2_lettersIn_9 ?_
    refine lv_iload_n C.1 C.2.1 dX2_lettersIn_12 rfl (lv_at hl 1 rfl) ?_
    have q9 := (ix_some h7).1
    have h10 := (ix_some h7).2
    clear h7
    refine x_iald C Z 4 rfl (by decide) q9 dX2_lettersIn_13 ?_
    refine lv_goto (tgt := 18) C.1 C.2.1 dX2_lettersIn_14 (by decide) ?_
    have h11 := Option.some.inj h10
    subst h11
    exact hRet _ _ _ _ Z dX2_lettersIn_18
abbrev rmX6_append : Room := { frames := 2, cells := 0, slots := 0, locals := 44 }
theorem yk_X6_append : xY yX6_append RX6 cX6_append 2 (some .int) wsX6_append rmX6_append 1 := ⟨⟨_, rfl⟩, by decide +kernel, rfl, rfl⟩
theorem i_X2_X6_append : ∀ w ∈ u_ws RX2 TX2 5, w ∈ wsX6_append := fun _ h => List.mem_cons_of_mem _ (List.mem_append_right _ h)
theorem i_X6_X6_append : ∀ w ∈ u_ws RX6 TX6 11, w ∈ wsX6_append := fun _ h => List.mem_cons_of_mem _ (List.mem_append_left _ (List.mem_append_right _ h))
set_option maxHeartbeats 4000000 in
set_option maxRecDepth 100000 in
theorem k_X6_append (l : Launch) (g : xG) (n : Nat) (aF : Nat → Nat) (aH : Nat → Nat) (aP : Nat → Nat) (aT : Nat → Nat) (aC : Nat → Nat) (aK : Nat → Nat) (aB : Nat → Nat) (aQ : Nat → Nat) (aU : Nat → Nat) (aV : Nat → Nat) (aS : Nat → Nat) (aR : Nat → Nat) (rr : Nat → Nat) (sF : Int) (sH : HisS) (sP : PadS) (sT : TxtS) (sC : ClsS) (sK : SwpS) (sB : BegS) (sQ : TxtS) (sU : TxtS) (sV : TxtS) (sS : SwpS) (sR : SwpS) (v1 : Int) (r : Int × Int × HisS) (hf : p_X6_append sF sH v1 = some r) : xMi l yX6_append wsX6_append rmX6_append g [.ref (aF 0), .int (iI v1)] ((wF g aF (aH 0) (aP 0) (aT 0) (aC 0) (aB 0) (aQ 0) (aU 0) (aV 0) (aS 0) (aR 0) sF ++ (wH g aH sH ++ (wP g aP sP ++ (wT g aT sT ++ (wC g aC (aK 0) rr sC ++ (wS g aK sK ++ (wB g aB sB ++ (wT g aQ sQ ++ (wT g aU sU ++ (wT g aV sV ++ (wS g aS sS ++ wS g aR sR))))))))))) ++ wR g rr sC.classOf) ((wF g aF (aH 0) (aP 0) (aT 0) (aC 0) (aB 0) (aQ 0) (aU 0) (aV 0) (aS 0) (aR 0) r.2.1 ++ (wH g aH r.2.2 ++ (wP g aP sP ++ (wT g aT sT ++ (wC g aC (aK 0) rr sC ++ (wS g aK sK ++ (wB g aB sB ++ (wT g aQ sQ ++ (wT g aU sU ++ (wT g aV sV ++ (wS g aS sS ++ wS g aR sR))))))))))) ++ wR g rr sC.classOf) r.1 := by
  refine x_ofW_i (own := RX6) (by decide) rfl rfl (Nat.le_of_ble_eq_true rfl) ?_
  intro p e s m args below meth c ls A QQ C hRet Z hl
  have hl : lv_has ls 2 [(0, .ref (aF 0)), (1, .int (iI v1))] := hl
  unfold p_X6_append at hf
  refine lv_iload_n C.1 C.2.1 dX6_append_0 rfl (lv_at hl 1 rfl) ?_
  obtain ⟨r1, hr1, h2⟩ := bd_some hf
  clear hf
  refine x_callS_i (As := [.int (iI v1)]) (rest := []) C Z (k_X6_isLetter l g n v1 r1 hr1) gX6_append_X6_isLetter yk_X6_isLetter ⟨Nat.le_of_ble_eq_true rfl, Nat.le_of_ble_eq_true rfl⟩ ⟨Nat.zero_le _, Nat.zero_le _⟩ hl.1 rfl (Nat.le_of_ble_eq_true rfl) rfl dX6_append_1 (fun H locs Z => ?_)
  have q3 := (ck_some h2).1
  have h4 := (ck_some h2).2
  clear h2
  refine x_if_ne (tgt := 10) C dX6_append_4 (by decide) q3 (fun c5 => ?_) (fun c5 => ?_)
  · have h6 := if_n h4 c5
    clear h4
    refine lv_aload_n C.1 C.2.1 dX6_append_10 rfl (lv_at hl 0 rfl) ?_
    refine x_get C Z 0 rfl rfl i_X6_X6_append (k := 0) (by decide) (List.mem_of_getElem? (i := 1) rfl) rfl dX6_append_11 ?_
    refine lv_aload_n C.1 C.2.1 dX6_append_14 rfl (lv_at hl 0 rfl) ?_
    refine x_get C Z 0 rfl rfl i_X6_X6_append (k := 10) (by decide) (List.mem_of_getElem? (i := 2) rfl) rfl dX6_append_15 ?_
    obtain ⟨r8, hr8, h9⟩ := bd_some h6
    clear h6
    refine x_callV_i_Q (As := [.int (iI sF)]) (rest := []) (q0 := 0) (X2 := (wF g aF (aH 0) (aP 0) (aT 0) (aC 0) (aB 0) (aQ 0) (aU 0) (aV 0) (aS 0) (aR 0) sF ++ (wH g aH sH ++ (wP g aP sP ++ (wT g aT sT ++ (wC g aC (aK 0) rr sC ++ (wS g aK sK ++ (wB g aB sB ++ (wT g aQ sQ ++ (wT g aU sU ++ (wT g aV sV ++ (wS g aS sS ++ wS g aR sR)))))))))))) C Z fr_FHPTCKBQUVSR_1 (k_X2_wordsIn l g n aH sH sF r8 hr8) gX6_append_X2_wordsIn yk_X2_wordsIn ⟨Nat.le_of_ble_eq_true rfl, Nat.le_of_ble_eq_true rfl⟩ rfl rfl ⟨Nat.zero_le _, Nat.zero_le _⟩ hl.1 rfl (Nat.le_of_ble_eq_true rfl) rfl dX6_append_18 (fun H locs Z => ?_)
    have q10 := (ck_some h9).1
    have h11 := (ck_some h9).2
    clear h9
    refine x_if_ne (tgt := 27) C dX6_append_21 (by decide) q10 (fun c12 => ?_) (fun c12 => ?_)
    · have h13 := if_n h11 c12
      clear h11
      refine lv_aload_n C.1 C.2.1 dX6_append_27 rfl (lv_at hl 0 rfl) ?_
      refine x_get C Z 0 rfl rfl i_X6_X6_append (k := 0) (by decide) (List.mem_of_getElem? (i := 1) rfl) rfl dX6_append_28 ?_
      refine lv_aload_n C.1 C.2.1 dX6_append_31 rfl (lv_at hl 0 rfl) ?_
      refine x_get C Z 0 rfl rfl i_X6_X6_append (k := 10) (by decide) (List.mem_of_getElem? (i := 2) rfl) rfl dX6_append_32 ?_
      obtain ⟨r15, hr15, h16⟩ := bd_some h13
      clear h13
      refine x_callV_i_Q (As := [.int (iI sF)]) (rest := []) (q0 := 0) (X2 := (wF g aF (aH 0) (aP 0) (aT 0) (aC 0) (aB 0) (aQ 0) (aU 0) (aV 0) (aS 0) (aR 0) sF ++ (wH g aH sH ++ (wP g aP sP ++ (wT g aT sT ++ (wC g aC (aK 0) rr sC ++ (wS g aK sK ++ (wB g aB sB ++ (wT g aQ sQ ++ (wT g aU sU ++ (wT g aV sV ++ (wS g aS sS ++ wS g aR sR)))))))))))) C Z fr_FHPTCKBQUVSR_1 (k_X2_lettersIn l g n aH sH sF r15 hr15) gX6_append_X2_lettersIn yk_X2_lettersIn ⟨Nat.le_of_ble_eq_true rfl, Nat.le_of_ble_eq_true rfl⟩ rfl rfl ⟨Nat.zero_le _, Nat.zero_le _⟩ hl.1 rfl (Nat.le_of_ble_eq_true rfl) rfl dX6_append_35 (fun H locs Z => ?_)
      refine x_bipush C dX6_append_38 (by decide) ?_
      have q17 := (ck_some h16).1
      have h18 := (ck_some h16).2
      clear h16
      refine x_icmp_ge (tgt := 54) C dX6_append_40 (by decide) q17 (by decide) (fun c19 => ?_) (fun c19 => ?_)
      · have h20 := if_n h18 c19
        clear h18
        refine x_bipush C dX6_append_54 (by decide) ?_
        have h22 := Option.some.inj h20
        subst h22
        exact hRet _ _ _ _ Z dX6_append_56
      · have h21 := if_p h18 c19
        clear h18
        refine lv_aload_n C.1 C.2.1 dX6_append_43 rfl (lv_at hl 0 rfl) ?_
        refine x_get C Z 0 rfl rfl i_X6_X6_append (k := 0) (by decide) (List.mem_of_getElem? (i := 1) rfl) rfl dX6_append_44 ?_
        refine x_iconst C dX6_append_47 ?_
        obtain ⟨r23, hr23, h24⟩ := bd_some h21
        clear h21
        refine x_callV_i_Q (As := [.int (iI 1)]) (rest := []) (q0 := 0) (X2 := (wF g aF (aH 0) (aP 0) (aT 0) (aC 0) (aB 0) (aQ 0) (aU 0) (aV 0) (aS 0) (aR 0) sF ++ (wH g aH sH ++ (wP g aP sP ++ (wT g aT sT ++ (wC g aC (aK 0) rr sC ++ (wS g aK sK ++ (wB g aB sB ++ (wT g aQ sQ ++ (wT g aU sU ++ (wT g aV sV ++ (wS g aS sS ++ wS g aR sR)))))))))))) C Z fr_FHPTCKBQUVSR_1 (k_X2_hasRoomFor l g n aH sH 1 r23 hr23) gX6_append_X2_hasRoomFor yk_X2_hasRoomFor ⟨Nat.le_of_ble_eq_true rfl, Nat.le_of_ble_eq_true rfl⟩ rfl rfl ⟨Nat.zero_le _, Nat.zero_le _⟩ hl.1 rfl (Nat.le_of_ble_eq_true rfl) rfl dX6_append_48 (fun H locs Z => ?_)
        have q25 := (ck_some h24).1
        have h26 := (ck_some h24).2
        clear h24
        refine x_if_ne (tgt := 57) C dX6_append_51 (by decide) q25 (fun c27 => ?_) (fun c27 => ?_)
        · have h28 := if_n h26 c27
          clear h26
          refine lv_aload_n C.1 C.2.1 dX6_append_57 rfl (lv_at hl 0 rfl) ?_
          refine lv_aload_n C.1 C.2.1 dX6_append_58 rfl (lv_at hl 0 rfl) ?_
          refine x_get C Z 0 rfl rfl i_X6_X6_append (k := 0) (by decide) (List.mem_of_getElem? (i := 1) rfl) rfl dX6_append_59 ?_
          refine lv_aload_n C.1 C.2.1 dX6_append_62 rfl (lv_at hl 0 rfl) ?_
          refine x_get C Z 0 rfl rfl i_X6_X6_append (k := 10) (by decide) (List.mem_of_getElem? (i := 2) rfl) rfl dX6_append_63 ?_
          refine lv_iload_n C.1 C.2.1 dX6_append_66 rfl (lv_at hl 1 rfl) ?_
          obtain ⟨r30, hr30, h31⟩ := bd_some h28
          clear h28
          refine x_callV_i_Q (As := [.int (iI sF), .int (iI v1)]) (rest := [.ref (aF 0)]) (q0 := 0) (X2 := (wF g aF (aH 0) (aP 0) (aT 0) (aC 0) (aB 0) (aQ 0) (aU 0) (aV 0) (aS 0) (aR 0) sF ++ (wH g aH r30.2 ++ (wP g aP sP ++ (wT g aT sT ++ (wC g aC (aK 0) rr sC ++ (wS g aK sK ++ (wB g aB sB ++ (wT g aQ sQ ++ (wT g aU sU ++ (wT g aV sV ++ (wS g aS sS ++ wS g aR sR)))))))))))) C Z fr_FHPTCKBQUVSR_1 (k_X2_grow l g n aH sH sF v1 r30 hr30) gX6_append_X2_grow yk_X2_grow ⟨Nat.le_of_ble_eq_true rfl, Nat.le_of_ble_eq_true rfl⟩ rfl rfl ⟨Nat.zero_le _, Nat.zero_le _⟩ hl.1 rfl (Nat.le_of_ble_eq_true rfl) rfl dX6_append_67 (fun H locs Z => ?_)
          refine x_put (ws2 := (wF g aF (aH 0) (aP 0) (aT 0) (aC 0) (aB 0) (aQ 0) (aU 0) (aV 0) (aS 0) (aR 0) r30.1 ++ (wH g aH r30.2 ++ (wP g aP sP ++ (wT g aT sT ++ (wC g aC (aK 0) rr sC ++ (wS g aK sK ++ (wB g aB sB ++ (wT g aQ sQ ++ (wT g aU sU ++ (wT g aV sV ++ (wS g aS sS ++ wS g aR sR))))))))))) ++ wR g rr sC.classOf) C Z 0 rfl rfl i_X6_X6_append tyX6_ok nmX6 (k := 10) (by decide) (List.mem_of_getElem? (i := 2) rfl) rfl rfl (Nat.le_of_ble_eq_true rfl) dX6_append_70 rfl (fun H locs Z => ?_)
          refine lv_aload_n C.1 C.2.1 dX6_append_73 rfl (lv_at hl 0 rfl) ?_
          refine x_get C Z 0 rfl rfl i_X6_X6_append (k := 10) (by decide) (List.mem_of_getElem? (i := 2) rfl) rfl dX6_append_74 ?_
          have h32 := Option.some.inj h31
          subst h32
          exact hRet _ _ _ _ Z dX6_append_77
        · have h29 := if_p h26 c27
          clear h26
          refine x_bipush C dX6_append_54 (by decide) ?_
          have h33 := Option.some.inj h29
          subst h33
          exact hRet _ _ _ _ Z dX6_append_56
    · have h14 := if_p h11 c12
      clear h11
      refine x_bipush C dX6_append_24 (by decide) ?_
      have h34 := Option.some.inj h14
      subst h34
      exact hRet _ _ _ _ Z dX6_append_26
  · have h7 := if_p h4 c5
    clear h4
    refine x_bipush C dX6_append_7 (by decide) ?_
    have h35 := Option.some.inj h7
    subst h35
    exact hRet _ _ _ _ Z dX6_append_9
abbrev rmX3_firstFault : Room := { frames := 1, cells := 0, slots := 0, locals := 20 }
theorem yk_X3_firstFault : xY yX3_firstFault RX3 cX3_firstFault 4 (some .int) wsX3_firstFault rmX3_firstFault 1 := ⟨⟨_, rfl⟩, by decide +kernel, rfl, rfl⟩
theorem i_X3_X3_firstFault : ∀ w ∈ u_ws RX3 TX3 2, w ∈ wsX3_firstFault := fun _ h => List.mem_cons_of_mem _ (List.mem_append_right _ h)
set_option maxHeartbeats 4000000 in
set_option maxRecDepth 100000 in
theorem k_X3_firstFault (l : Launch) (g : xG) (n : Nat) (aP : Nat → Nat) (sP : PadS) (v1 : Int) (r : Int) (hf : p_X3_firstFault n sP v1 = some r) : xMi l yX3_firstFault wsX3_firstFault rmX3_firstFault g [.ref (aP 0), .int (iI v1)] (wP g aP sP) (wP g aP sP) r := by
  refine x_ofW_i (own := RX3) (by decide) rfl rfl (Nat.le_of_ble_eq_true rfl) ?_
  intro p e s m args below meth c ls A QQ C hRet Z hl
  have hl : lv_has ls 4 [(0, .ref (aP 0)), (1, .int (iI v1))] := hl
  unfold p_X3_firstFault at hf
  refine x_iconst C dX3_firstFault_0 ?_
  refine lv_istore_n (lv' := [(2, .int (iI 0)), (0, .ref (aP 0)), (1, .int (iI v1))]) C.1 C.2.1 dX3_firstFault_1 rfl hl (by decide) rfl (fun ls hl => ?_)
  obtain ⟨ex2, hl2, h83⟩ := bd_some hf
  clear hf
  have hK2 : ∀ (e2 : Unit) (H : Heap) (locs : List Loc) (ls : Array Slot), ex2 = .inr e2 → xSt g A s (wP g aP sP) H locs → lv_has ls 4 [] → W p l e rmX3_firstFault s m args below meth c H locs 0 0 QQ (F0 m 58 ls []) := by
    intro e2 H locs ls he Z hl
    subst he
    have h84 := (Sum.elim_inr ..).symm.trans h83
    clear h83
    refine x_bipush C dX3_firstFault_58 (by decide) ?_
    have h85 := Option.some.inj h84
    subst h85
    exact hRet _ _ _ _ Z dX3_firstFault_60
  have hL2 : ∀ (k2 : Nat) (z2 : Int) (H : Heap) (locs : List Loc) (ls : Array Slot), lp (p_X3_firstFault_b2 n sP v1) k2 z2 = some ex2 → xSt g A s (wP g aP sP) H locs → lv_has ls 4 [(0, .ref (aP 0)), (1, .int (iI v1)), (2, .int (iI z2))] → W p l e rmX3_firstFault s m args below meth c H locs 0 0 QQ (F0 m 2 ls []) := by
    intro k2
    induction k2 with
    | zero => intro z2 H locs ls h; exact (lp_0 h).elim
    | succ k2 ih2 =>
      intro z2 H locs ls h Z hl
      obtain ⟨x2, hb2, hx2⟩ := lp_s h
      clear h
      unfold p_X3_firstFault_b2 at hb2
      have hJ44 : ∀ (v2_44 : Int) (H : Heap) (locs : List Loc) (ls : Array Slot), p_X3_firstFault_j44 n v2_44 = some x2 → xSt g A s (wP g aP sP) H locs → lv_has ls 4 [(0, .ref (aP 0)), (1, .int (iI v1)), (2, .int (iI v2_44))] → W p l e rmX3_firstFault s m args below meth c H locs 0 0 QQ (F0 m 44 ls []) := by
        intro v2_44 H locs ls hj44 Z hl
        unfold p_X3_firstFault_j44 at hj44
        refine x_iconst C dX3_firstFault_44 ?_
        refine lv_istore_n (lv' := [(3, .int (iI 0)), (0, .ref (aP 0)), (1, .int (iI v1)), (2, .int (iI v2_44))]) C.1 C.2.1 dX3_firstFault_45 rfl hl (by decide) rfl (fun ls hl => ?_)
        refine lv_iload_n C.1 C.2.1 dX3_firstFault_46 rfl (lv_at hl 0 rfl) ?_
        refine x_if_ne (tgt := 52) C dX3_firstFault_47 (by decide) (by decide) (fun c43 => ?_) (fun c43 => ?_)
        · exact absurd (by decide) c43
        · have h45 := hj44
          clear hj44
          refine lv_iload_n C.1 C.2.1 dX3_firstFault_50 rfl (lv_at hl 3 rfl) ?_
          cases h45
          have h46 := lp_R hx2
          subst h46
          have h47 := (Sum.elim_inl ..).symm.trans h83
          have h48 := Option.some.inj h47
          subst h48
          exact hRet _ _ _ _ Z dX3_firstFault_51
      have hJ40 : ∀ (v2_40 : Int) (H : Heap) (locs : List Loc) (ls : Array Slot), p_X3_firstFault_j40 n v2_40 = some x2 → xSt g A s (wP g aP sP) H locs → lv_has ls 4 [(0, .ref (aP 0)), (1, .int (iI v1)), (2, .int (iI v2_40))] → W p l e rmX3_firstFault s m args below meth c H locs 0 0 QQ (F0 m 40 ls []) := by
        intro v2_40 H locs ls hj40 Z hl
        unfold p_X3_firstFault_j40 at hj40
        refine x_iconst C dX3_firstFault_40 ?_
        refine lv_goto (tgt := 45) C.1 C.2.1 dX3_firstFault_41 (by decide) ?_
        refine lv_istore_n (lv' := [(3, .int (iI 1)), (0, .ref (aP 0)), (1, .int (iI v1)), (2, .int (iI v2_40))]) C.1 C.2.1 dX3_firstFault_45 rfl hl (by decide) rfl (fun ls hl => ?_)
        refine lv_iload_n C.1 C.2.1 dX3_firstFault_46 rfl (lv_at hl 0 rfl) ?_
        refine x_if_ne (tgt := 52) C dX3_firstFault_47 (by decide) (by decide) (fun c49 => ?_) (fun c49 => ?_)
        · have h50 := hj40
          clear hj40
          refine x_iinc (lv' := [(2, .int (iI (v2_40 + 1))), (3, .int (iI 1)), (0, .ref (aP 0)), (1, .int (iI v1))]) C dX3_firstFault_52 hl (k := 3) rfl (by decide) rfl (fun ls hl => ?_)
          refine lv_goto (tgt := 2) C.1 C.2.1 dX3_firstFault_55 (by decide) ?_
          cases h50
          exact ih2 (v2_40 + 1) _ _ _ (lp_L2 hx2) Z (lv_sub hl [2, 3, 0] rfl)
        · exact absurd c49 (by decide)
      refine lv_iload_n C.1 C.2.1 dX3_firstFault_2 rfl (lv_at hl 2 rfl) ?_
      refine lv_aload_n C.1 C.2.1 dX3_firstFault_3 rfl (lv_at hl 0 rfl) ?_
      refine x_get C Z 0 rfl rfl i_X3_X3_firstFault (k := 1) (by decide) (List.mem_of_getElem? (i := 1) rfl) rfl dX3_firstFault_4 ?_
      have q55 := (ck_some hb2).1
      have h56 := (ck_some hb2).2
      clear hb2
      have q57 := (ck_some h56).1
      have h58 := (ck_some h56).2
      clear h56
      refine x_icmp_ge (tgt := 58) C dX3_firstFault_7 (by decide) q55 q57 (fun c59 => ?_) (fun c59 => ?_)
      · have h60 := if_n h58 c59
        clear h58
        cases h60
        exact hK2 () _ _ _ (lp_R hx2).symm Z (lv_sub hl [] rfl)
      · have h61 := if_p h58 c59
        clear h58
        refine lv_aload_n C.1 C.2.1 dX3_firstFault_10 rfl (lv_at hl 0 rfl) ?_
        refine x_get C Z 0 rfl rfl i_X3_X3_firstFault (k := 0) (by decide) (List.mem_of_getElem? (i := 2) rfl) rfl dX3_firstFault_11 ?_
        refine lv_iload_n C.1 C.2.1 dX3_firstFault_14 rfl (lv_at hl 2 rfl) ?_
        have q62 := (ix_some h61).1
        have h63 := (ix_some h61).2
        clear h61
        refine x_iald C Z 1 rfl (by decide) q62 dX3_firstFault_15 ?_
        refine x_bipush C dX3_firstFault_16 (by decide) ?_
        refine x_isub C dX3_firstFault_18 ?_
        obtain ⟨r64, hr64, h65⟩ := bd_some h63
        clear h63
        refine x_callSN_i (As := [.int (iI ((sP.characters z2) - 97))]) (rest := []) C Z (k_X6_isLetter l g n ((sP.characters z2) - 97) r64 hr64) gX3_firstFault_X6_isLetter_n36 C.2.2.2.2.2.2.1.2.2.2 (List.mem_of_getElem? (i := 4) rfl) (List.mem_of_getElem? (i := 3) rfl) yk_X6_isLetter ⟨Nat.le_of_ble_eq_true rfl, Nat.le_of_ble_eq_true rfl⟩ ⟨Nat.zero_le _, Nat.zero_le _⟩ hl.1 rfl (Nat.le_of_ble_eq_true rfl) rfl dX3_firstFault_19 (fun H locs Z => ?_)
        have q66 := (ck_some h65).1
        have h67 := (ck_some h65).2
        clear h65
        refine x_if_ne (tgt := 40) C dX3_firstFault_22 (by decide) q66 (fun c68 => ?_) (fun c68 => ?_)
        · have h69 := if_n h67 c68
          clear h67
          exact hJ40 z2 _ _ _ h69 Z (lv_sub hl [0, 1, 2] rfl)
        · have h70 := if_p h67 c68
          clear h67
          refine lv_iload_n C.1 C.2.1 dX3_firstFault_25 rfl (lv_at hl 1 rfl) ?_
          have q71 := (ck_some h70).1
          have h72 := (ck_some h70).2
          clear h70
          refine x_if_eq (tgt := 44) C dX3_firstFault_26 (by decide) q71 (fun c73 => ?_) (fun c73 => ?_)
          · have h74 := if_p h72 c73
            clear h72
            exact hJ44 z2 _ _ _ h74 Z (lv_sub hl [0, 1, 2] rfl)
          · have h75 := if_n h72 c73
            clear h72
            refine lv_aload_n C.1 C.2.1 dX3_firstFault_29 rfl (lv_at hl 0 rfl) ?_
            refine x_get C Z 0 rfl rfl i_X3_X3_firstFault (k := 0) (by decide) (List.mem_of_getElem? (i := 2) rfl) rfl dX3_firstFault_30 ?_
            refine lv_iload_n C.1 C.2.1 dX3_firstFault_33 rfl (lv_at hl 2 rfl) ?_
            refine x_iald C Z 1 rfl (by decide) q62 dX3_firstFault_34 ?_
            refine x_bipush C dX3_firstFault_35 (by decide) ?_
            have q78 := (ck_some h75).1
            have h79 := (ck_some h75).2
            clear h75
            refine x_icmp_ne (tgt := 44) C dX3_firstFault_37 (by decide) q78 (by decide) (fun c80 => ?_) (fun c80 => ?_)
            · have h81 := if_n h79 c80
              clear h79
              exact hJ44 z2 _ _ _ h81 Z (lv_sub hl [0, 1, 2] rfl)
            · have h82 := if_p h79 c80
              clear h79
              exact hJ40 z2 _ _ _ h82 Z (lv_sub hl [0, 1, 2] rfl)
  exact hL2 n 0 _ _ _ hl2 Z (lv_sub hl [1, 2, 0] rfl)
abbrev rmX3_faultAsWords : Room := { frames := 2, cells := 0, slots := 0, locals := 43 }
theorem yk_X3_faultAsWords : xY yX3_faultAsWords RX3 cX3_faultAsWords 1 (some .int) wsX3_faultAsWords rmX3_faultAsWords 0 := ⟨⟨_, rfl⟩, by decide +kernel, rfl, rfl⟩
theorem i_X3_X3_faultAsWords : ∀ w ∈ u_ws RX3 TX3 2, w ∈ wsX3_faultAsWords := fun _ h => List.mem_cons_of_mem _ (List.mem_append_right _ h)
set_option maxHeartbeats 4000000 in
set_option maxRecDepth 100000 in
theorem k_X3_faultAsWords (l : Launch) (g : xG) (n : Nat) (aP : Nat → Nat) (sP : PadS) (r : Int) (hf : p_X3_faultAsWords n sP = some r) : xMi l yX3_faultAsWords wsX3_faultAsWords rmX3_faultAsWords g [.ref (aP 0)] (wP g aP sP) (wP g aP sP) r := by
  refine x_ofW_i (own := RX3) (by decide) rfl rfl (Nat.le_of_ble_eq_true rfl) ?_
  intro p e s m args below meth c ls A QQ C hRet Z hl
  have hl : lv_has ls 1 [(0, .ref (aP 0))] := hl
  unfold p_X3_faultAsWords at hf
  refine lv_aload_n C.1 C.2.1 dX3_faultAsWords_0 rfl (lv_at hl 0 rfl) ?_
  refine x_iconst C dX3_faultAsWords_1 ?_
  obtain ⟨r1, hr1, h2⟩ := bd_some hf
  clear hf
  refine x_callV_i_id (As := [.int (iI 1)]) (rest := []) (q0 := 0) C Z (k_X3_firstFault l g n aP sP 1 r1 hr1) gX3_faultAsWords_X3_firstFault yk_X3_firstFault ⟨Nat.le_of_ble_eq_true rfl, Nat.le_of_ble_eq_true rfl⟩ rfl rfl ⟨Nat.zero_le _, Nat.zero_le _⟩ hl.1 rfl (Nat.le_of_ble_eq_true rfl) rfl dX3_faultAsWords_2 (fun H locs Z => ?_)
  have h3 := Option.some.inj h2
  subst h3
  exact hRet _ _ _ _ Z dX3_faultAsWords_5
abbrev rmX3_size : Room := { frames := 0, cells := 0, slots := 0, locals := 0 }
theorem yk_X3_size : xY yX3_size RX3 cX3_size 1 (some .int) wsX3_size rmX3_size 0 := ⟨⟨_, rfl⟩, by decide +kernel, rfl, rfl⟩
theorem i_X3_X3_size : ∀ w ∈ u_ws RX3 TX3 2, w ∈ wsX3_size := fun _ h => List.mem_cons_of_mem _ (List.mem_append_right _ h)
set_option maxHeartbeats 4000000 in
set_option maxRecDepth 100000 in
theorem k_X3_size (l : Launch) (g : xG) (n : Nat) (aP : Nat → Nat) (sP : PadS) (r : Int) (hf : p_X3_size sP = some r) : xMi l yX3_size wsX3_size rmX3_size g [.ref (aP 0)] (wP g aP sP) (wP g aP sP) r := by
  refine x_ofW_i (own := RX3) (by decide) rfl rfl (Nat.le_of_ble_eq_true rfl) ?_
  intro p e s m args below meth c ls A QQ C hRet Z hl
  have hl : lv_has ls 1 [(0, .ref (aP 0))] := hl
  unfold p_X3_size at hf
  refine lv_aload_n C.1 C.2.1 dX3_size_0 rfl (lv_at hl 0 rfl) ?_
  refine x_get C Z 0 rfl rfl i_X3_X3_size (k := 1) (by decide) (List.mem_of_getElem? (i := 1) rfl) rfl dX3_size_1 ?_
  have h1 := Option.some.inj hf
  subst h1
  exact hRet _ _ _ _ Z dX3_size_4
abbrev rmX3_slashes : Room := { frames := 0, cells := 0, slots := 0, locals := 0 }
theorem yk_X3_slashes : xY yX3_slashes RX3 cX3_slashes 3 (some .int) wsX3_slashes rmX3_slashes 0 := ⟨⟨_, rfl⟩, by decide +kernel, rfl, rfl⟩
theorem i_X3_X3_slashes : ∀ w ∈ u_ws RX3 TX3 2, w ∈ wsX3_slashes := fun _ h => List.mem_cons_of_mem _ (List.mem_append_right _ h)
set_option maxHeartbeats 4000000 in
set_option maxRecDepth 100000 in
theorem k_X3_slashes (l : Launch) (g : xG) (n : Nat) (aP : Nat → Nat) (sP : PadS) (r : Int) (hf : p_X3_slashes n sP = some r) : xMi l yX3_slashes wsX3_slashes rmX3_slashes g [.ref (aP 0)] (wP g aP sP) (wP g aP sP) r := by
  refine x_ofW_i (own := RX3) (by decide) rfl rfl (Nat.le_of_ble_eq_true rfl) ?_
  intro p e s m args below meth c ls A QQ C hRet Z hl
  have hl : lv_has ls 3 [(0, .ref (aP 0))] := hl
  unfold p_X3_slashes at hf
  refine x_iconst C dX3_slashes_0 ?_
  refine lv_istore_n (lv' := [(1, .int (iI 0)), (0, .ref (aP 0))]) C.1 C.2.1 dX3_slashes_1 rfl hl (by decide) rfl (fun ls hl => ?_)
  refine x_iconst C dX3_slashes_2 ?_
  refine lv_istore_n (lv' := [(2, .int (iI 0)), (1, .int (iI 0)), (0, .ref (aP 0))]) C.1 C.2.1 dX3_slashes_3 rfl hl (by decide) rfl (fun ls hl => ?_)
  obtain ⟨ex4, hl4, h31⟩ := bd_some hf
  clear hf
  have hK4 : ∀ (H : Heap) (locs : List Loc) (ls : Array Slot), xSt g A s (wP g aP sP) H locs → lv_has ls 3 [(1, .int (iI ex4))] → W p l e rmX3_slashes s m args below meth c H locs 0 0 QQ (F0 m 32 ls []) := by
    intro H locs ls Z hl
    have h32 := h31
    clear h31
    refine lv_iload_n C.1 C.2.1 dX3_slashes_32 rfl (lv_at hl 0 rfl) ?_
    have h33 := Option.some.inj h32
    subst h33
    exact hRet _ _ _ _ Z dX3_slashes_33
  have hL4 : ∀ (k4 : Nat) (z4 : Int × Int) (H : Heap) (locs : List Loc) (ls : Array Slot), lp (p_X3_slashes_b4 n sP) k4 z4 = some ex4 → xSt g A s (wP g aP sP) H locs → lv_has ls 3 [(0, .ref (aP 0)), (1, .int (iI z4.1)), (2, .int (iI z4.2))] → W p l e rmX3_slashes s m args below meth c H locs 0 0 QQ (F0 m 4 ls []) := by
    intro k4
    induction k4 with
    | zero => intro z4 H locs ls h; exact (lp_0 h).elim
    | succ k4 ih4 =>
      intro z4 H locs ls h Z hl
      obtain ⟨x4, hb4, hx4⟩ := lp_s h
      clear h
      unfold p_X3_slashes_b4 at hb4
      refine lv_iload_n C.1 C.2.1 dX3_slashes_4 rfl (lv_at hl 2 rfl) ?_
      refine lv_aload_n C.1 C.2.1 dX3_slashes_5 rfl (lv_at hl 0 rfl) ?_
      refine x_get C Z 0 rfl rfl i_X3_X3_slashes (k := 1) (by decide) (List.mem_of_getElem? (i := 1) rfl) rfl dX3_slashes_6 ?_
      have q16 := (ck_some hb4).1
      have h17 := (ck_some hb4).2
      clear hb4
      have q18 := (ck_some h17).1
      have h19 := (ck_some h17).2
      clear h17
      refine x_icmp_ge (tgt := 32) C dX3_slashes_9 (by decide) q16 q18 (fun c20 => ?_) (fun c20 => ?_)
      · have h21 := if_n h19 c20
        clear h19
        cases h21
        have h23 := lp_R hx4
        subst h23
        exact hK4 _ _ _ Z (lv_sub hl [1] rfl)
      · have h22 := if_p h19 c20
        clear h19
        refine lv_aload_n C.1 C.2.1 dX3_slashes_12 rfl (lv_at hl 0 rfl) ?_
        refine x_get C Z 0 rfl rfl i_X3_X3_slashes (k := 0) (by decide) (List.mem_of_getElem? (i := 2) rfl) rfl dX3_slashes_13 ?_
        refine lv_iload_n C.1 C.2.1 dX3_slashes_16 rfl (lv_at hl 2 rfl) ?_
        have q24 := (ix_some h22).1
        have h25 := (ix_some h22).2
        clear h22
        refine x_iald C Z 1 rfl (by decide) q24 dX3_slashes_17 ?_
        refine x_bipush C dX3_slashes_18 (by decide) ?_
        have q26 := (ck_some h25).1
        have h27 := (ck_some h25).2
        clear h25
        refine x_icmp_ne (tgt := 26) C dX3_slashes_20 (by decide) q26 (by decide) (fun c28 => ?_) (fun c28 => ?_)
        · have h29 := if_n h27 c28
          clear h27
          refine x_iinc (lv' := [(2, .int (iI (z4.2 + 1))), (0, .ref (aP 0)), (1, .int (iI z4.1))]) C dX3_slashes_26 hl (k := 2) rfl (by decide) rfl (fun ls hl => ?_)
          refine lv_goto (tgt := 4) C.1 C.2.1 dX3_slashes_29 (by decide) ?_
          cases h29
          exact ih4 (z4.1, z4.2 + 1) _ _ _ (lp_L2 hx4) Z (lv_sub hl [1, 2, 0] rfl)
        · have h30 := if_p h27 c28
          clear h27
          refine x_iinc (lv' := [(1, .int (iI (z4.1 + 1))), (0, .ref (aP 0)), (2, .int (iI z4.2))]) C dX3_slashes_23 hl (k := 1) rfl (by decide) rfl (fun ls hl => ?_)
          refine x_iinc (lv' := [(2, .int (iI (z4.2 + 1))), (1, .int (iI (z4.1 + 1))), (0, .ref (aP 0))]) C dX3_slashes_26 hl (k := 2) rfl (by decide) rfl (fun ls hl => ?_)
          refine lv_goto (tgt := 4) C.1 C.2.1 dX3_slashes_29 (by decide) ?_
          cases h30
          exact ih4 (z4.1 + 1, z4.2 + 1) _ _ _ (lp_L2 hx4) Z (lv_sub hl [2, 1, 0] rfl)
  exact hL4 n (0, 0) _ _ _ hl4 Z (lv_sub hl [2, 1, 0] rfl)
abbrev rmX3_characterAt : Room := { frames := 0, cells := 0, slots := 0, locals := 0 }
theorem yk_X3_characterAt : xY yX3_characterAt RX3 cX3_characterAt 2 (some .int) wsX3_characterAt rmX3_characterAt 1 := ⟨⟨_, rfl⟩, by decide +kernel, rfl, rfl⟩
theorem i_X3_X3_characterAt : ∀ w ∈ u_ws RX3 TX3 2, w ∈ wsX3_characterAt := fun _ h => List.mem_cons_of_mem _ (List.mem_append_right _ h)
set_option maxHeartbeats 4000000 in
set_option maxRecDepth 100000 in
theorem k_X3_characterAt (l : Launch) (g : xG) (n : Nat) (aP : Nat → Nat) (sP : PadS) (v1 : Int) (r : Int) (hf : p_X3_characterAt sP v1 = some r) : xMi l yX3_characterAt wsX3_characterAt rmX3_characterAt g [.ref (aP 0), .int (iI v1)] (wP g aP sP) (wP g aP sP) r := by
  refine x_ofW_i (own := RX3) (by decide) rfl rfl (Nat.le_of_ble_eq_true rfl) ?_
  intro p e s m args below meth c ls A QQ C hRet Z hl
  have hl : lv_has ls 2 [(0, .ref (aP 0)), (1, .int (iI v1))] := hl
  unfold p_X3_characterAt at hf
  refine lv_iload_n C.1 C.2.1 dX3_characterAt_0 rfl (lv_at hl 1 rfl) ?_
  have q1 := (ck_some hf).1
  have h2 := (ck_some hf).2
  clear hf
  refine x_if_lt (tgt := 21) C dX3_characterAt_1 (by decide) q1 (fun c3 => ?_) (fun c3 => ?_)
  · have h4 := if_p h2 c3
    clear h2
    refine x_bipush C dX3_characterAt_21 (by decide) ?_
    have h6 := Option.some.inj h4
    subst h6
    exact hRet _ _ _ _ Z dX3_characterAt_23
  · have h5 := if_n h2 c3
    clear h2
    refine lv_iload_n C.1 C.2.1 dX3_characterAt_4 rfl (lv_at hl 1 rfl) ?_
    refine lv_aload_n C.1 C.2.1 dX3_characterAt_5 rfl (lv_at hl 0 rfl) ?_
    refine x_get C Z 0 rfl rfl i_X3_X3_characterAt (k := 1) (by decide) (List.mem_of_getElem? (i := 1) rfl) rfl dX3_characterAt_6 ?_
    have q7 := (ck_some h5).1
    have h8 := (ck_some h5).2
    clear h5
    refine x_icmp_ge (tgt := 21) C dX3_characterAt_9 (by decide) q1 q7 (fun c9 => ?_) (fun c9 => ?_)
    · have h10 := if_n h8 c9
      clear h8
      refine x_bipush C dX3_characterAt_21 (by decide) ?_
      have h12 := Option.some.inj h10
      subst h12
      exact hRet _ _ _ _ Z dX3_characterAt_23
    · have h11 := if_p h8 c9
      clear h8
      refine lv_aload_n C.1 C.2.1 dX3_characterAt_12 rfl (lv_at hl 0 rfl) ?_
      refine x_get C Z 0 rfl rfl i_X3_X3_characterAt (k := 0) (by decide) (List.mem_of_getElem? (i := 2) rfl) rfl dX3_characterAt_13 ?_
      refine lv_iload_n C.1 C.2.1 dX3_characterAt_16 rfl (lv_at hl 1 rfl) ?_
      have q13 := (ix_some h11).1
      have h14 := (ix_some h11).2
      clear h11
      refine x_iald C Z 1 rfl (by decide) q13 dX3_characterAt_17 ?_
      refine lv_goto (tgt := 23) C.1 C.2.1 dX3_characterAt_18 (by decide) ?_
      have h15 := Option.some.inj h14
      subst h15
      exact hRet _ _ _ _ Z dX3_characterAt_23
abbrev rmX3_clear : Room := { frames := 0, cells := 0, slots := 0, locals := 0 }
theorem yk_X3_clear : xY yX3_clear RX3 cX3_clear 1 none wsX3_clear rmX3_clear 0 := ⟨⟨_, rfl⟩, by decide +kernel, rfl, rfl⟩
theorem i_X3_X3_clear : ∀ w ∈ u_ws RX3 TX3 2, w ∈ wsX3_clear := fun _ h => List.mem_cons_of_mem _ (List.mem_append_right _ h)
set_option maxHeartbeats 4000000 in
set_option maxRecDepth 100000 in
theorem k_X3_clear (l : Launch) (g : xG) (n : Nat) (aP : Nat → Nat) (sP : PadS) (r : PadS) (hf : p_X3_clear sP = some r) : xMv l yX3_clear wsX3_clear rmX3_clear g [.ref (aP 0)] (wP g aP sP) (wP g aP r) := by
  refine x_ofW_v (own := RX3) (by decide) rfl rfl (Nat.le_of_ble_eq_true rfl) ?_
  intro p e s m args below meth c ls A QQ C hRet Z hl
  have hl : lv_has ls 1 [(0, .ref (aP 0))] := hl
  unfold p_X3_clear at hf
  refine lv_aload_n C.1 C.2.1 dX3_clear_0 rfl (lv_at hl 0 rfl) ?_
  refine x_iconst C dX3_clear_1 ?_
  refine x_put (ws2 := wP g aP (sP.characters, 0)) C Z 0 rfl rfl i_X3_X3_clear tyX3_ok nmX3 (k := 1) (by decide) (List.mem_of_getElem? (i := 1) rfl) rfl rfl (Nat.le_of_ble_eq_true rfl) dX3_clear_2 rfl (fun H locs Z => ?_)
  have h1 := Option.some.inj hf
  subst h1
  exact hRet _ _ _ _ Z dX3_clear_5
abbrev rmX6_load : Room := { frames := 3, cells := 0, slots := 0, locals := 63 }
theorem yk_X6_load : xY yX6_load RX6 cX6_load 7 (some .int) wsX6_load rmX6_load 0 := ⟨⟨_, rfl⟩, by decide +kernel, rfl, rfl⟩
theorem i_X2_X6_load : ∀ w ∈ u_ws RX2 TX2 5, w ∈ wsX6_load := fun _ h => List.mem_cons_of_mem _ (List.mem_append_right _ h)
theorem i_X3_X6_load : ∀ w ∈ u_ws RX3 TX3 2, w ∈ wsX6_load := fun _ h => List.mem_cons_of_mem _ (List.mem_append_left _ (List.mem_append_right _ h))
theorem i_X6_X6_load : ∀ w ∈ u_ws RX6 TX6 11, w ∈ wsX6_load := fun _ h => List.mem_cons_of_mem _ (List.mem_append_left _ (List.mem_append_left _ (List.mem_append_right _ h)))
set_option maxHeartbeats 4000000 in
set_option maxRecDepth 100000 in
theorem k_X6_load (l : Launch) (g : xG) (n : Nat) (aF : Nat → Nat) (aH : Nat → Nat) (aP : Nat → Nat) (aT : Nat → Nat) (aC : Nat → Nat) (aK : Nat → Nat) (aB : Nat → Nat) (aQ : Nat → Nat) (aU : Nat → Nat) (aV : Nat → Nat) (aS : Nat → Nat) (aR : Nat → Nat) (rr : Nat → Nat) (sF : Int) (sH : HisS) (sP : PadS) (sT : TxtS) (sC : ClsS) (sK : SwpS) (sB : BegS) (sQ : TxtS) (sU : TxtS) (sV : TxtS) (sS : SwpS) (sR : SwpS) (r : Int × Int × HisS × PadS) (hf : p_X6_load n sF sH sP = some r) : xMi l yX6_load wsX6_load rmX6_load g [.ref (aF 0)] ((wF g aF (aH 0) (aP 0) (aT 0) (aC 0) (aB 0) (aQ 0) (aU 0) (aV 0) (aS 0) (aR 0) sF ++ (wH g aH sH ++ (wP g aP sP ++ (wT g aT sT ++ (wC g aC (aK 0) rr sC ++ (wS g aK sK ++ (wB g aB sB ++ (wT g aQ sQ ++ (wT g aU sU ++ (wT g aV sV ++ (wS g aS sS ++ wS g aR sR))))))))))) ++ wR g rr sC.classOf) ((wF g aF (aH 0) (aP 0) (aT 0) (aC 0) (aB 0) (aQ 0) (aU 0) (aV 0) (aS 0) (aR 0) r.2.1 ++ (wH g aH r.2.2.1 ++ (wP g aP r.2.2.2 ++ (wT g aT sT ++ (wC g aC (aK 0) rr sC ++ (wS g aK sK ++ (wB g aB sB ++ (wT g aQ sQ ++ (wT g aU sU ++ (wT g aV sV ++ (wS g aS sS ++ wS g aR sR))))))))))) ++ wR g rr sC.classOf) r.1 := by
  refine x_ofW_i (own := RX6) (by decide) rfl rfl (Nat.le_of_ble_eq_true rfl) ?_
  intro p e s m args below meth c ls A QQ C hRet Z hl
  have hl : lv_has ls 7 [(0, .ref (aF 0))] := hl
  unfold p_X6_load at hf
  have hJ67 : ∀ (sF_67 : Int) (sH_67 : HisS) (sP_67 : PadS) (v1_67 : Int) (v2_67 : Int) (v3_67 : Int) (H : Heap) (locs : List Loc) (ls : Array Slot), p_X6_load_j67 n sF_67 sH_67 sP_67 v1_67 v2_67 v3_67 = some r → xSt g A s ((wF g aF (aH 0) (aP 0) (aT 0) (aC 0) (aB 0) (aQ 0) (aU 0) (aV 0) (aS 0) (aR 0) sF_67 ++ (wH g aH sH_67 ++ (wP g aP sP_67 ++ (wT g aT sT ++ (wC g aC (aK 0) rr sC ++ (wS g aK sK ++ (wB g aB sB ++ (wT g aQ sQ ++ (wT g aU sU ++ (wT g aV sV ++ (wS g aS sS ++ wS g aR sR))))))))))) ++ wR g rr sC.classOf) H locs → lv_has ls 7 [(0, .ref (aF 0)), (1, .int (iI v1_67)), (2, .int (iI v2_67)), (3, .int (iI v3_67))] → W p l e rmX6_load s m args below meth c H locs 0 0 QQ (F0 m 67 ls []) := by
    intro sF_67 sH_67 sP_67 v1_67 v2_67 v3_67 H locs ls hj67 Z hl
    unfold p_X6_load_j67 at hj67
    refine lv_aload_n C.1 C.2.1 dX6_load_67 rfl (lv_at hl 0 rfl) ?_
    refine x_get C Z 0 rfl rfl i_X6_X6_load (k := 0) (by decide) (List.mem_of_getElem? (i := 2) rfl) rfl dX6_load_68 ?_
    refine lv_aload_n C.1 C.2.1 dX6_load_71 rfl (lv_at hl 0 rfl) ?_
    refine x_get C Z 0 rfl rfl i_X6_X6_load (k := 10) (by decide) (List.mem_of_getElem? (i := 3) rfl) rfl dX6_load_72 ?_
    obtain ⟨r1, hr1, h2⟩ := bd_some hj67
    clear hj67
    refine x_callV_i_Q (As := [.int (iI sF_67)]) (rest := []) (q0 := 0) (X2 := (wF g aF (aH 0) (aP 0) (aT 0) (aC 0) (aB 0) (aQ 0) (aU 0) (aV 0) (aS 0) (aR 0) sF_67 ++ (wH g aH sH_67 ++ (wP g aP sP_67 ++ (wT g aT sT ++ (wC g aC (aK 0) rr sC ++ (wS g aK sK ++ (wB g aB sB ++ (wT g aQ sQ ++ (wT g aU sU ++ (wT g aV sV ++ (wS g aS sS ++ wS g aR sR)))))))))))) C Z fr_FHPTCKBQUVSR_1 (k_X2_lettersIn l g n aH sH_67 sF_67 r1 hr1) gX6_load_X2_lettersIn yk_X2_lettersIn ⟨Nat.le_of_ble_eq_true rfl, Nat.le_of_ble_eq_true rfl⟩ rfl rfl ⟨Nat.zero_le _, Nat.zero_le _⟩ hl.1 rfl (Nat.le_of_ble_eq_true rfl) rfl dX6_load_75 (fun H locs Z => ?_)
    refine lv_iload_n C.1 C.2.1 dX6_load_78 rfl (lv_at hl 1 rfl) ?_
    refine x_iadd C dX6_load_79 ?_
    refine lv_iload_n C.1 C.2.1 dX6_load_80 rfl (lv_at hl 2 rfl) ?_
    refine x_isub C dX6_load_81 ?_
    refine lv_istore (lv' := [(4, .int (iI ((r1 + v1_67) - v2_67))), (0, .ref (aF 0)), (1, .int (iI v1_67)), (2, .int (iI v2_67)), (3, .int (iI v3_67))]) C.1 C.2.1 dX6_load_82 hl (by decide) rfl (fun ls hl => ?_)
    refine lv_iload_n C.1 C.2.1 dX6_load_84 rfl (lv_at hl 4 rfl) ?_
    refine lv_iload_n C.1 C.2.1 dX6_load_85 rfl (lv_at hl 3 rfl) ?_
    refine x_iadd C dX6_load_86 ?_
    refine x_bipush C dX6_load_87 (by decide) ?_
    have q3 := (ck_some h2).1
    have h4 := (ck_some h2).2
    clear h2
    refine x_icmp_gt (tgt := 110) C dX6_load_89 (by decide) q3 (by decide) (fun c5 => ?_) (fun c5 => ?_)
    · have h6 := if_p h4 c5
      clear h4
      refine x_bipush C dX6_load_110 (by decide) ?_
      have h8 := Option.some.inj h6
      subst h8
      exact hRet _ _ _ _ Z dX6_load_112
    · have h7 := if_n h4 c5
      clear h4
      refine lv_iload C.1 C.2.1 dX6_load_92 (lv_at hl 0 rfl) ?_
      refine x_bipush C dX6_load_94 (by decide) ?_
      have q9 := (ck_some h7).1
      have h10 := (ck_some h7).2
      clear h7
      refine x_icmp_gt (tgt := 110) C dX6_load_96 (by decide) q9 (by decide) (fun c11 => ?_) (fun c11 => ?_)
      · have h12 := if_p h10 c11
        clear h10
        refine x_bipush C dX6_load_110 (by decide) ?_
        have h14 := Option.some.inj h12
        subst h14
        exact hRet _ _ _ _ Z dX6_load_112
      · have h13 := if_n h10 c11
        clear h10
        refine lv_aload_n C.1 C.2.1 dX6_load_99 rfl (lv_at hl 1 rfl) ?_
        refine x_get C Z 0 rfl rfl i_X6_X6_load (k := 0) (by decide) (List.mem_of_getElem? (i := 2) rfl) rfl dX6_load_100 ?_
        refine lv_iload_n C.1 C.2.1 dX6_load_103 rfl (lv_at hl 2 rfl) ?_
        obtain ⟨r15, hr15, h16⟩ := bd_some h13
        clear h13
        refine x_callV_i_Q (As := [.int (iI v1_67)]) (rest := []) (q0 := 0) (X2 := (wF g aF (aH 0) (aP 0) (aT 0) (aC 0) (aB 0) (aQ 0) (aU 0) (aV 0) (aS 0) (aR 0) sF_67 ++ (wH g aH sH_67 ++ (wP g aP sP_67 ++ (wT g aT sT ++ (wC g aC (aK 0) rr sC ++ (wS g aK sK ++ (wB g aB sB ++ (wT g aQ sQ ++ (wT g aU sU ++ (wT g aV sV ++ (wS g aS sS ++ wS g aR sR)))))))))))) C Z fr_FHPTCKBQUVSR_1 (k_X2_hasRoomFor l g n aH sH_67 v1_67 r15 hr15) gX6_load_X2_hasRoomFor yk_X2_hasRoomFor ⟨Nat.le_of_ble_eq_true rfl, Nat.le_of_ble_eq_true rfl⟩ rfl rfl ⟨Nat.zero_le _, Nat.zero_le _⟩ hl.1 rfl (Nat.le_of_ble_eq_true rfl) rfl dX6_load_104 (fun H locs Z => ?_)
        have q17 := (ck_some h16).1
        have h18 := (ck_some h16).2
        clear h16
        refine x_if_ne (tgt := 113) C dX6_load_107 (by decide) q17 (fun c19 => ?_) (fun c19 => ?_)
        · have h20 := if_n h18 c19
          clear h18
          refine x_iconst C dX6_load_113 ?_
          refine lv_istore (lv' := [(5, .int (iI 0)), (4, .int (iI ((r1 + v1_67) - v2_67))), (0, .ref (aF 0)), (1, .int (iI v1_67)), (2, .int (iI v2_67)), (3, .int (iI v3_67))]) C.1 C.2.1 dX6_load_114 hl (by decide) rfl (fun ls hl => ?_)
          obtain ⟨ex116, hl116, h57⟩ := bd_some h20
          clear h20
          have hK116 : ∀ (H : Heap) (locs : List Loc) (ls : Array Slot), xSt g A s ((wF g aF (aH 0) (aP 0) (aT 0) (aC 0) (aB 0) (aQ 0) (aU 0) (aV 0) (aS 0) (aR 0) ex116.1 ++ (wH g aH ex116.2 ++ (wP g aP sP_67 ++ (wT g aT sT ++ (wC g aC (aK 0) rr sC ++ (wS g aK sK ++ (wB g aB sB ++ (wT g aQ sQ ++ (wT g aU sU ++ (wT g aV sV ++ (wS g aS sS ++ wS g aR sR))))))))))) ++ wR g rr sC.classOf) H locs → lv_has ls 7 [(0, .ref (aF 0))] → W p l e rmX6_load s m args below meth c H locs 0 0 QQ (F0 m 170 ls []) := by
            intro H locs ls Z hl
            have h58 := h57
            clear h57
            refine lv_aload_n C.1 C.2.1 dX6_load_170 rfl (lv_at hl 0 rfl) ?_
            refine x_get C Z 0 rfl rfl i_X6_X6_load (k := 1) (by decide) (List.mem_of_getElem? (i := 1) rfl) rfl dX6_load_171 ?_
            obtain ⟨r59, hr59, h60⟩ := bd_some h58
            clear h58
            refine x_callV_v_Q (As := []) (rest := []) (q0 := 0) (X2 := (wF g aF (aH 0) (aP 0) (aT 0) (aC 0) (aB 0) (aQ 0) (aU 0) (aV 0) (aS 0) (aR 0) ex116.1 ++ (wH g aH ex116.2 ++ (wP g aP r59 ++ (wT g aT sT ++ (wC g aC (aK 0) rr sC ++ (wS g aK sK ++ (wB g aB sB ++ (wT g aQ sQ ++ (wT g aU sU ++ (wT g aV sV ++ (wS g aS sS ++ wS g aR sR)))))))))))) C Z fr_FHPTCKBQUVSR_2 (k_X3_clear l g n aP sP_67 r59 hr59) gX6_load_X3_clear yk_X3_clear ⟨Nat.le_of_ble_eq_true rfl, Nat.le_of_ble_eq_true rfl⟩ rfl rfl ⟨Nat.zero_le _, Nat.zero_le _⟩ hl.1 rfl (Nat.le_of_ble_eq_true rfl) rfl dX6_load_174 (fun H locs Z => ?_)
            refine lv_aload_n C.1 C.2.1 dX6_load_177 rfl (lv_at hl 0 rfl) ?_
            refine x_get C Z 0 rfl rfl i_X6_X6_load (k := 10) (by decide) (List.mem_of_getElem? (i := 3) rfl) rfl dX6_load_178 ?_
            have h61 := Option.some.inj h60
            subst h61
            exact hRet _ _ _ _ Z dX6_load_181
          have hL116 : ∀ (k116 : Nat) (z116 : Int × Int × HisS) (H : Heap) (locs : List Loc) (ls : Array Slot), lp (p_X6_load_b116 n sP_67 v1_67) k116 z116 = some ex116 → xSt g A s ((wF g aF (aH 0) (aP 0) (aT 0) (aC 0) (aB 0) (aQ 0) (aU 0) (aV 0) (aS 0) (aR 0) z116.2.1 ++ (wH g aH z116.2.2 ++ (wP g aP sP_67 ++ (wT g aT sT ++ (wC g aC (aK 0) rr sC ++ (wS g aK sK ++ (wB g aB sB ++ (wT g aQ sQ ++ (wT g aU sU ++ (wT g aV sV ++ (wS g aS sS ++ wS g aR sR))))))))))) ++ wR g rr sC.classOf) H locs → lv_has ls 7 [(0, .ref (aF 0)), (1, .int (iI v1_67)), (5, .int (iI z116.1))] → W p l e rmX6_load s m args below meth c H locs 0 0 QQ (F0 m 116 ls []) := by
            intro k116
            induction k116 with
            | zero => intro z116 H locs ls h; exact (lp_0 h).elim
            | succ k116 ih116 =>
              intro z116 H locs ls h Z hl
              obtain ⟨x116, hb116, hx116⟩ := lp_s h
              clear h
              unfold p_X6_load_b116 at hb116
              have hJ158 : ∀ (sF_present_158 : Int) (sH_158 : HisS) (v5_158 : Int) (t2_158 : Int) (t3_158 : Int) (H : Heap) (locs : List Loc) (ls : Array Slot), p_X6_load_j158 n sH_158 v5_158 t2_158 t3_158 = some x116 → xSt g A s ((wF g aF (aH 0) (aP 0) (aT 0) (aC 0) (aB 0) (aQ 0) (aU 0) (aV 0) (aS 0) (aR 0) sF_present_158 ++ (wH g aH sH_158 ++ (wP g aP sP_67 ++ (wT g aT sT ++ (wC g aC (aK 0) rr sC ++ (wS g aK sK ++ (wB g aB sB ++ (wT g aQ sQ ++ (wT g aU sU ++ (wT g aV sV ++ (wS g aS sS ++ wS g aR sR))))))))))) ++ wR g rr sC.classOf) H locs → lv_has ls 7 [(0, .ref (aF 0)), (1, .int (iI v1_67)), (5, .int (iI v5_158))] → W p l e rmX6_load s m args below meth c H locs 0 0 QQ (F0 m 158 ls [.int (iI t3_158), .int (iI t2_158), .ref (aH 0), .ref (aF 0)]) := by
                intro sF_present_158 sH_158 v5_158 t2_158 t3_158 H locs ls hj158 Z hl
                unfold p_X6_load_j158 at hj158
                obtain ⟨r40, hr40, h41⟩ := bd_some hj158
                clear hj158
                refine x_callV_i_Q (As := [.int (iI t2_158), .int (iI t3_158)]) (rest := [.ref (aF 0)]) (q0 := 0) (X2 := (wF g aF (aH 0) (aP 0) (aT 0) (aC 0) (aB 0) (aQ 0) (aU 0) (aV 0) (aS 0) (aR 0) sF_present_158 ++ (wH g aH r40.2 ++ (wP g aP sP_67 ++ (wT g aT sT ++ (wC g aC (aK 0) rr sC ++ (wS g aK sK ++ (wB g aB sB ++ (wT g aQ sQ ++ (wT g aU sU ++ (wT g aV sV ++ (wS g aS sS ++ wS g aR sR)))))))))))) C Z fr_FHPTCKBQUVSR_1 (k_X2_grow l g n aH sH_158 t2_158 t3_158 r40 hr40) gX6_load_X2_grow yk_X2_grow ⟨Nat.le_of_ble_eq_true rfl, Nat.le_of_ble_eq_true rfl⟩ rfl rfl ⟨Nat.zero_le _, Nat.zero_le _⟩ hl.1 rfl (Nat.le_of_ble_eq_true rfl) rfl dX6_load_158 (fun H locs Z => ?_)
                refine x_put (ws2 := (wF g aF (aH 0) (aP 0) (aT 0) (aC 0) (aB 0) (aQ 0) (aU 0) (aV 0) (aS 0) (aR 0) r40.1 ++ (wH g aH r40.2 ++ (wP g aP sP_67 ++ (wT g aT sT ++ (wC g aC (aK 0) rr sC ++ (wS g aK sK ++ (wB g aB sB ++ (wT g aQ sQ ++ (wT g aU sU ++ (wT g aV sV ++ (wS g aS sS ++ wS g aR sR))))))))))) ++ wR g rr sC.classOf) C Z 0 rfl rfl i_X6_X6_load tyX6_ok nmX6 (k := 10) (by decide) (List.mem_of_getElem? (i := 3) rfl) rfl rfl (Nat.le_of_ble_eq_true rfl) dX6_load_161 rfl (fun H locs Z => ?_)
                refine x_iinc (lv' := [(5, .int (iI (v5_158 + 1))), (0, .ref (aF 0)), (1, .int (iI v1_67))]) C dX6_load_164 hl (k := 2) rfl (by decide) rfl (fun ls hl => ?_)
                refine lv_goto (tgt := 116) C.1 C.2.1 dX6_load_167 (by decide) ?_
                cases h41
                exact ih116 (v5_158 + 1, r40.1, r40.2) _ _ _ (lp_L2 hx116) Z (lv_sub hl [1, 2, 0] rfl)
              refine lv_iload C.1 C.2.1 dX6_load_116 (lv_at hl 2 rfl) ?_
              refine lv_iload_n C.1 C.2.1 dX6_load_118 rfl (lv_at hl 1 rfl) ?_
              have q42 := (ck_some hb116).1
              have h43 := (ck_some hb116).2
              clear hb116
              have q44 := (ck_some h43).1
              have h45 := (ck_some h43).2
              clear h43
              refine x_icmp_ge (tgt := 170) C dX6_load_119 (by decide) q42 q44 (fun c46 => ?_) (fun c46 => ?_)
              · have h47 := if_n h45 c46
                clear h45
                cases h47
                have h49 := lp_R hx116
                subst h49
                exact hK116 _ _ _ Z (lv_sub hl [0] rfl)
              · have h48 := if_p h45 c46
                clear h45
                refine lv_aload_n C.1 C.2.1 dX6_load_122 rfl (lv_at hl 0 rfl) ?_
                refine x_get C Z 0 rfl rfl i_X6_X6_load (k := 1) (by decide) (List.mem_of_getElem? (i := 1) rfl) rfl dX6_load_123 ?_
                refine lv_iload C.1 C.2.1 dX6_load_126 (lv_at hl 2 rfl) ?_
                obtain ⟨r50, hr50, h51⟩ := bd_some h48
                clear h48
                refine x_callV_i_Q (As := [.int (iI z116.1)]) (rest := []) (q0 := 0) (X2 := (wF g aF (aH 0) (aP 0) (aT 0) (aC 0) (aB 0) (aQ 0) (aU 0) (aV 0) (aS 0) (aR 0) z116.2.1 ++ (wH g aH z116.2.2 ++ (wP g aP sP_67 ++ (wT g aT sT ++ (wC g aC (aK 0) rr sC ++ (wS g aK sK ++ (wB g aB sB ++ (wT g aQ sQ ++ (wT g aU sU ++ (wT g aV sV ++ (wS g aS sS ++ wS g aR sR)))))))))))) C Z fr_FHPTCKBQUVSR_2 (k_X3_characterAt l g n aP sP_67 z116.1 r50 hr50) gX6_load_X3_characterAt yk_X3_characterAt ⟨Nat.le_of_ble_eq_true rfl, Nat.le_of_ble_eq_true rfl⟩ rfl rfl ⟨Nat.zero_le _, Nat.zero_le _⟩ hl.1 rfl (Nat.le_of_ble_eq_true rfl) rfl dX6_load_128 (fun H locs Z => ?_)
                refine lv_istore (lv' := [(6, .int (iI r50)), (0, .ref (aF 0)), (1, .int (iI v1_67)), (5, .int (iI z116.1))]) C.1 C.2.1 dX6_load_131 hl (by decide) rfl (fun ls hl => ?_)
                refine lv_aload_n C.1 C.2.1 dX6_load_133 rfl (lv_at hl 1 rfl) ?_
                refine lv_aload_n C.1 C.2.1 dX6_load_134 rfl (lv_at hl 1 rfl) ?_
                refine x_get C Z 0 rfl rfl i_X6_X6_load (k := 0) (by decide) (List.mem_of_getElem? (i := 2) rfl) rfl dX6_load_135 ?_
                refine lv_aload_n C.1 C.2.1 dX6_load_138 rfl (lv_at hl 1 rfl) ?_
                refine x_get C Z 0 rfl rfl i_X6_X6_load (k := 10) (by decide) (List.mem_of_getElem? (i := 3) rfl) rfl dX6_load_139 ?_
                refine lv_iload C.1 C.2.1 dX6_load_142 (lv_at hl 0 rfl) ?_
                refine x_bipush C dX6_load_144 (by decide) ?_
                have q52 := (ck_some h51).1
                have h53 := (ck_some h51).2
                clear h51
                refine x_icmp_ne (tgt := 153) C dX6_load_146 (by decide) q52 (by decide) (fun c54 => ?_) (fun c54 => ?_)
                · have h55 := if_n h53 c54
                  clear h53
                  refine lv_iload C.1 C.2.1 dX6_load_153 (lv_at hl 0 rfl) ?_
                  refine x_bipush C dX6_load_155 (by decide) ?_
                  refine x_isub C dX6_load_157 ?_
                  exact hJ158 z116.2.1 z116.2.2 z116.1 z116.2.1 (r50 - 97) _ _ _ h55 Z (lv_sub hl [1, 2, 3] rfl)
                · have h56 := if_p h53 c54
                  clear h53
                  refine x_iconst C dX6_load_149 ?_
                  refine lv_goto (tgt := 158) C.1 C.2.1 dX6_load_150 (by decide) ?_
                  exact hJ158 z116.2.1 z116.2.2 z116.1 z116.2.1 (-1) _ _ _ h56 Z (lv_sub hl [1, 2, 3] rfl)
          exact hL116 n (0, sF_67, sH_67) _ _ _ hl116 Z (lv_sub hl [2, 3, 0] rfl)
        · have h21 := if_p h18 c19
          clear h18
          refine x_bipush C dX6_load_110 (by decide) ?_
          have h62 := Option.some.inj h21
          subst h62
          exact hRet _ _ _ _ Z dX6_load_112
  refine lv_aload_n C.1 C.2.1 dX6_load_0 rfl (lv_at hl 0 rfl) ?_
  refine x_get C Z 0 rfl rfl i_X6_X6_load (k := 1) (by decide) (List.mem_of_getElem? (i := 1) rfl) rfl dX6_load_1 ?_
  obtain ⟨r63, hr63, h64⟩ := bd_some hf
  clear hf
  refine x_callV_i_Q (As := []) (rest := []) (q0 := 0) (X2 := (wF g aF (aH 0) (aP 0) (aT 0) (aC 0) (aB 0) (aQ 0) (aU 0) (aV 0) (aS 0) (aR 0) sF ++ (wH g aH sH ++ (wP g aP sP ++ (wT g aT sT ++ (wC g aC (aK 0) rr sC ++ (wS g aK sK ++ (wB g aB sB ++ (wT g aQ sQ ++ (wT g aU sU ++ (wT g aV sV ++ (wS g aS sS ++ wS g aR sR)))))))))))) C Z fr_FHPTCKBQUVSR_2 (k_X3_faultAsWords l g n aP sP r63 hr63) gX6_load_X3_faultAsWords yk_X3_faultAsWords ⟨Nat.le_of_ble_eq_true rfl, Nat.le_of_ble_eq_true rfl⟩ rfl rfl ⟨Nat.zero_le _, Nat.zero_le _⟩ hl.1 rfl (Nat.le_of_ble_eq_true rfl) rfl dX6_load_4 (fun H locs Z => ?_)
  refine x_bipush C dX6_load_7 (by decide) ?_
  have q65 := (ck_some h64).1
  have h66 := (ck_some h64).2
  clear h64
  refine x_icmp_eq (tgt := 15) C dX6_load_9 (by decide) q65 (by decide) (fun c67 => ?_) (fun c67 => ?_)
  · have h68 := if_p h66 c67
    clear h66
    refine lv_aload_n C.1 C.2.1 dX6_load_15 rfl (lv_at hl 0 rfl) ?_
    refine x_get C Z 0 rfl rfl i_X6_X6_load (k := 1) (by decide) (List.mem_of_getElem? (i := 1) rfl) rfl dX6_load_16 ?_
    obtain ⟨r70, hr70, h71⟩ := bd_some h68
    clear h68
    refine x_callV_i_Q (As := []) (rest := []) (q0 := 0) (X2 := (wF g aF (aH 0) (aP 0) (aT 0) (aC 0) (aB 0) (aQ 0) (aU 0) (aV 0) (aS 0) (aR 0) sF ++ (wH g aH sH ++ (wP g aP sP ++ (wT g aT sT ++ (wC g aC (aK 0) rr sC ++ (wS g aK sK ++ (wB g aB sB ++ (wT g aQ sQ ++ (wT g aU sU ++ (wT g aV sV ++ (wS g aS sS ++ wS g aR sR)))))))))))) C Z fr_FHPTCKBQUVSR_2 (k_X3_size l g n aP sP r70 hr70) gX6_load_X3_size yk_X3_size ⟨Nat.le_of_ble_eq_true rfl, Nat.le_of_ble_eq_true rfl⟩ rfl rfl ⟨Nat.zero_le _, Nat.zero_le _⟩ hl.1 rfl (Nat.le_of_ble_eq_true rfl) rfl dX6_load_19 (fun H locs Z => ?_)
    refine lv_istore_n (lv' := [(1, .int (iI r70)), (0, .ref (aF 0))]) C.1 C.2.1 dX6_load_22 rfl hl (by decide) rfl (fun ls hl => ?_)
    refine lv_aload_n C.1 C.2.1 dX6_load_23 rfl (lv_at hl 1 rfl) ?_
    refine x_get C Z 0 rfl rfl i_X6_X6_load (k := 1) (by decide) (List.mem_of_getElem? (i := 1) rfl) rfl dX6_load_24 ?_
    obtain ⟨r72, hr72, h73⟩ := bd_some h71
    clear h71
    refine x_callV_i_Q (As := []) (rest := []) (q0 := 0) (X2 := (wF g aF (aH 0) (aP 0) (aT 0) (aC 0) (aB 0) (aQ 0) (aU 0) (aV 0) (aS 0) (aR 0) sF ++ (wH g aH sH ++ (wP g aP sP ++ (wT g aT sT ++ (wC g aC (aK 0) rr sC ++ (wS g aK sK ++ (wB g aB sB ++ (wT g aQ sQ ++ (wT g aU sU ++ (wT g aV sV ++ (wS g aS sS ++ wS g aR sR)))))))))))) C Z fr_FHPTCKBQUVSR_2 (k_X3_slashes l g n aP sP r72 hr72) gX6_load_X3_slashes yk_X3_slashes ⟨Nat.le_of_ble_eq_true rfl, Nat.le_of_ble_eq_true rfl⟩ rfl rfl ⟨Nat.zero_le _, Nat.zero_le _⟩ hl.1 rfl (Nat.le_of_ble_eq_true rfl) rfl dX6_load_27 (fun H locs Z => ?_)
    refine lv_istore_n (lv' := [(2, .int (iI r72)), (1, .int (iI r70)), (0, .ref (aF 0))]) C.1 C.2.1 dX6_load_30 rfl hl (by decide) rfl (fun ls hl => ?_)
    refine lv_aload_n C.1 C.2.1 dX6_load_31 rfl (lv_at hl 2 rfl) ?_
    refine x_get C Z 0 rfl rfl i_X6_X6_load (k := 0) (by decide) (List.mem_of_getElem? (i := 2) rfl) rfl dX6_load_32 ?_
    refine lv_aload_n C.1 C.2.1 dX6_load_35 rfl (lv_at hl 2 rfl) ?_
    refine x_get C Z 0 rfl rfl i_X6_X6_load (k := 10) (by decide) (List.mem_of_getElem? (i := 3) rfl) rfl dX6_load_36 ?_
    obtain ⟨r74, hr74, h75⟩ := bd_some h73
    clear h73
    refine x_callV_i_Q (As := [.int (iI sF)]) (rest := []) (q0 := 0) (X2 := (wF g aF (aH 0) (aP 0) (aT 0) (aC 0) (aB 0) (aQ 0) (aU 0) (aV 0) (aS 0) (aR 0) sF ++ (wH g aH sH ++ (wP g aP sP ++ (wT g aT sT ++ (wC g aC (aK 0) rr sC ++ (wS g aK sK ++ (wB g aB sB ++ (wT g aQ sQ ++ (wT g aU sU ++ (wT g aV sV ++ (wS g aS sS ++ wS g aR sR)))))))))))) C Z fr_FHPTCKBQUVSR_1 (k_X2_wordsIn l g n aH sH sF r74 hr74) gX6_load_X2_wordsIn yk_X2_wordsIn ⟨Nat.le_of_ble_eq_true rfl, Nat.le_of_ble_eq_true rfl⟩ rfl rfl ⟨Nat.zero_le _, Nat.zero_le _⟩ hl.1 rfl (Nat.le_of_ble_eq_true rfl) rfl dX6_load_39 (fun H locs Z => ?_)
    refine lv_istore_n (lv' := [(3, .int (iI r74)), (2, .int (iI r72)), (1, .int (iI r70)), (0, .ref (aF 0))]) C.1 C.2.1 dX6_load_42 rfl hl (by decide) rfl (fun ls hl => ?_)
    refine lv_iload_n C.1 C.2.1 dX6_load_43 rfl (lv_at hl 2 rfl) ?_
    have q76 := (ck_some h75).1
    have h77 := (ck_some h75).2
    clear h75
    refine x_if_le (tgt := 67) C dX6_load_44 (by decide) q76 (fun c78 => ?_) (fun c78 => ?_)
    · have h79 := if_n h77 c78
      clear h77
      exact hJ67 sF sH sP r70 r72 r74 _ _ _ h79 Z (lv_sub hl [3, 2, 1, 0] rfl)
    · have h80 := if_p h77 c78
      clear h77
      refine lv_iload_n C.1 C.2.1 dX6_load_47 rfl (lv_at hl 0 rfl) ?_
      have q81 := (ck_some h80).1
      have h82 := (ck_some h80).2
      clear h80
      refine x_if_ne (tgt := 67) C dX6_load_48 (by decide) q81 (fun c83 => ?_) (fun c83 => ?_)
      · have h84 := if_n h82 c83
        clear h82
        exact hJ67 sF sH sP r70 r72 r74 _ _ _ h84 Z (lv_sub hl [3, 2, 1, 0] rfl)
      · have h85 := if_p h82 c83
        clear h82
        refine lv_aload_n C.1 C.2.1 dX6_load_51 rfl (lv_at hl 3 rfl) ?_
        refine x_get C Z 0 rfl rfl i_X6_X6_load (k := 1) (by decide) (List.mem_of_getElem? (i := 1) rfl) rfl dX6_load_52 ?_
        refine x_iconst C dX6_load_55 ?_
        obtain ⟨r86, hr86, h87⟩ := bd_some h85
        clear h85
        refine x_callV_i_Q (As := [.int (iI 0)]) (rest := []) (q0 := 0) (X2 := (wF g aF (aH 0) (aP 0) (aT 0) (aC 0) (aB 0) (aQ 0) (aU 0) (aV 0) (aS 0) (aR 0) sF ++ (wH g aH sH ++ (wP g aP sP ++ (wT g aT sT ++ (wC g aC (aK 0) rr sC ++ (wS g aK sK ++ (wB g aB sB ++ (wT g aQ sQ ++ (wT g aU sU ++ (wT g aV sV ++ (wS g aS sS ++ wS g aR sR)))))))))))) C Z fr_FHPTCKBQUVSR_2 (k_X3_characterAt l g n aP sP 0 r86 hr86) gX6_load_X3_characterAt yk_X3_characterAt ⟨Nat.le_of_ble_eq_true rfl, Nat.le_of_ble_eq_true rfl⟩ rfl rfl ⟨Nat.zero_le _, Nat.zero_le _⟩ hl.1 rfl (Nat.le_of_ble_eq_true rfl) rfl dX6_load_56 (fun H locs Z => ?_)
        refine x_bipush C dX6_load_59 (by decide) ?_
        have q88 := (ck_some h87).1
        have h89 := (ck_some h87).2
        clear h87
        refine x_icmp_eq (tgt := 67) C dX6_load_61 (by decide) q88 (by decide) (fun c90 => ?_) (fun c90 => ?_)
        · have h91 := if_p h89 c90
          clear h89
          exact hJ67 sF sH sP r70 r72 r74 _ _ _ h91 Z (lv_sub hl [3, 2, 1, 0] rfl)
        · have h92 := if_n h89 c90
          clear h89
          refine x_bipush C dX6_load_64 (by decide) ?_
          have h93 := Option.some.inj h92
          subst h93
          exact hRet _ _ _ _ Z dX6_load_66
  · have h69 := if_n h66 c67
    clear h66
    refine x_bipush C dX6_load_12 (by decide) ?_
    have h94 := Option.some.inj h69
    subst h94
    exact hRet _ _ _ _ Z dX6_load_14
abbrev rmX6_go : Room := { frames := 1, cells := 0, slots := 0, locals := 21 }
theorem yk_X6_go : xY yX6_go RX6 cX6_go 3 (some .int) wsX6_go rmX6_go 1 := ⟨⟨_, rfl⟩, by decide +kernel, rfl, rfl⟩
theorem i_X2_X6_go : ∀ w ∈ u_ws RX2 TX2 5, w ∈ wsX6_go := fun _ h => List.mem_cons_of_mem _ (List.mem_append_right _ h)
theorem i_X6_X6_go : ∀ w ∈ u_ws RX6 TX6 11, w ∈ wsX6_go := fun _ h => List.mem_cons_of_mem _ (List.mem_append_left _ (List.mem_append_right _ h))
set_option maxHeartbeats 4000000 in
set_option maxRecDepth 100000 in
theorem k_X6_go (l : Launch) (g : xG) (n : Nat) (aF : Nat → Nat) (aH : Nat → Nat) (aP : Nat → Nat) (aT : Nat → Nat) (aC : Nat → Nat) (aK : Nat → Nat) (aB : Nat → Nat) (aQ : Nat → Nat) (aU : Nat → Nat) (aV : Nat → Nat) (aS : Nat → Nat) (aR : Nat → Nat) (rr : Nat → Nat) (sF : Int) (sH : HisS) (sP : PadS) (sT : TxtS) (sC : ClsS) (sK : SwpS) (sB : BegS) (sQ : TxtS) (sU : TxtS) (sV : TxtS) (sS : SwpS) (sR : SwpS) (v1 : Int) (r : Int × Int) (hf : p_X6_go sF sH v1 = some r) : xMi l yX6_go wsX6_go rmX6_go g [.ref (aF 0), .int (iI v1)] ((wF g aF (aH 0) (aP 0) (aT 0) (aC 0) (aB 0) (aQ 0) (aU 0) (aV 0) (aS 0) (aR 0) sF ++ (wH g aH sH ++ (wP g aP sP ++ (wT g aT sT ++ (wC g aC (aK 0) rr sC ++ (wS g aK sK ++ (wB g aB sB ++ (wT g aQ sQ ++ (wT g aU sU ++ (wT g aV sV ++ (wS g aS sS ++ wS g aR sR))))))))))) ++ wR g rr sC.classOf) ((wF g aF (aH 0) (aP 0) (aT 0) (aC 0) (aB 0) (aQ 0) (aU 0) (aV 0) (aS 0) (aR 0) r.2 ++ (wH g aH sH ++ (wP g aP sP ++ (wT g aT sT ++ (wC g aC (aK 0) rr sC ++ (wS g aK sK ++ (wB g aB sB ++ (wT g aQ sQ ++ (wT g aU sU ++ (wT g aV sV ++ (wS g aS sS ++ wS g aR sR))))))))))) ++ wR g rr sC.classOf) r.1 := by
  refine x_ofW_i (own := RX6) (by decide) rfl rfl (Nat.le_of_ble_eq_true rfl) ?_
  intro p e s m args below meth c ls A QQ C hRet Z hl
  have hl : lv_has ls 3 [(0, .ref (aF 0)), (1, .int (iI v1))] := hl
  unfold p_X6_go at hf
  refine lv_aload_n C.1 C.2.1 dX6_go_0 rfl (lv_at hl 0 rfl) ?_
  refine x_get C Z 0 rfl rfl i_X6_X6_go (k := 0) (by decide) (List.mem_of_getElem? (i := 1) rfl) rfl dX6_go_1 ?_
  refine lv_iload_n C.1 C.2.1 dX6_go_4 rfl (lv_at hl 1 rfl) ?_
  obtain ⟨r1, hr1, h2⟩ := bd_some hf
  clear hf
  refine x_callV_i_Q (As := [.int (iI v1)]) (rest := []) (q0 := 0) (X2 := (wF g aF (aH 0) (aP 0) (aT 0) (aC 0) (aB 0) (aQ 0) (aU 0) (aV 0) (aS 0) (aR 0) sF ++ (wH g aH sH ++ (wP g aP sP ++ (wT g aT sT ++ (wC g aC (aK 0) rr sC ++ (wS g aK sK ++ (wB g aB sB ++ (wT g aQ sQ ++ (wT g aU sU ++ (wT g aV sV ++ (wS g aS sS ++ wS g aR sR)))))))))))) C Z fr_FHPTCKBQUVSR_1 (k_X2_has l g n aH sH v1 r1 hr1) gX6_go_X2_has yk_X2_has ⟨Nat.le_of_ble_eq_true rfl, Nat.le_of_ble_eq_true rfl⟩ rfl rfl ⟨Nat.zero_le _, Nat.zero_le _⟩ hl.1 rfl (Nat.le_of_ble_eq_true rfl) rfl dX6_go_5 (fun H locs Z => ?_)
  have q3 := (ck_some h2).1
  have h4 := (ck_some h2).2
  clear h2
  refine x_if_ne (tgt := 13) C dX6_go_8 (by decide) q3 (fun c5 => ?_) (fun c5 => ?_)
  · have h6 := if_n h4 c5
    clear h4
    refine lv_aload_n C.1 C.2.1 dX6_go_13 rfl (lv_at hl 0 rfl) ?_
    refine x_get C Z 0 rfl rfl i_X6_X6_go (k := 10) (by decide) (List.mem_of_getElem? (i := 2) rfl) rfl dX6_go_14 ?_
    refine lv_istore_n (lv' := [(2, .int (iI sF)), (0, .ref (aF 0)), (1, .int (iI v1))]) C.1 C.2.1 dX6_go_17 rfl hl (by decide) rfl (fun ls hl => ?_)
    refine lv_aload_n C.1 C.2.1 dX6_go_18 rfl (lv_at hl 1 rfl) ?_
    refine lv_iload_n C.1 C.2.1 dX6_go_19 rfl (lv_at hl 2 rfl) ?_
    refine x_put (ws2 := (wF g aF (aH 0) (aP 0) (aT 0) (aC 0) (aB 0) (aQ 0) (aU 0) (aV 0) (aS 0) (aR 0) v1 ++ (wH g aH sH ++ (wP g aP sP ++ (wT g aT sT ++ (wC g aC (aK 0) rr sC ++ (wS g aK sK ++ (wB g aB sB ++ (wT g aQ sQ ++ (wT g aU sU ++ (wT g aV sV ++ (wS g aS sS ++ wS g aR sR))))))))))) ++ wR g rr sC.classOf) C Z 0 rfl rfl i_X6_X6_go tyX6_ok nmX6 (k := 10) (by decide) (List.mem_of_getElem? (i := 2) rfl) rfl rfl (Nat.le_of_ble_eq_true rfl) dX6_go_20 rfl (fun H locs Z => ?_)
    refine lv_iload_n C.1 C.2.1 dX6_go_23 rfl (lv_at hl 0 rfl) ?_
    have h8 := Option.some.inj h6
    subst h8
    exact hRet _ _ _ _ Z dX6_go_24
  · have h7 := if_p h4 c5
    clear h4
    refine x_iconst C dX6_go_11 ?_
    have h9 := Option.some.inj h7
    subst h9
    exact hRet _ _ _ _ Z dX6_go_12
abbrev rmX2_parentOf : Room := { frames := 1, cells := 0, slots := 0, locals := 21 }
theorem yk_X2_parentOf : xY yX2_parentOf RX2 cX2_parentOf 2 (some .int) wsX2_parentOf rmX2_parentOf 1 := ⟨⟨_, rfl⟩, by decide +kernel, rfl, rfl⟩
theorem i_X2_X2_parentOf : ∀ w ∈ u_ws RX2 TX2 5, w ∈ wsX2_parentOf := fun _ h => List.mem_cons_of_mem _ (List.mem_append_right _ h)
set_option maxHeartbeats 4000000 in
set_option maxRecDepth 100000 in
theorem k_X2_parentOf (l : Launch) (g : xG) (n : Nat) (aH : Nat → Nat) (sH : HisS) (v1 : Int) (r : Int) (hf : p_X2_parentOf sH v1 = some r) : xMi l yX2_parentOf wsX2_parentOf rmX2_parentOf g [.ref (aH 0), .int (iI v1)] (wH g aH sH) (wH g aH sH) r := by
  refine x_ofW_i (own := RX2) (by decide) rfl rfl (Nat.le_of_ble_eq_true rfl) ?_
  intro p e s m args below meth c ls A QQ C hRet Z hl
  have hl : lv_has ls 2 [(0, .ref (aH 0)), (1, .int (iI v1))] := hl
  unfold p_X2_parentOf at hf
  refine lv_aload_n C.1 C.2.1 dX2_parentOf_0 rfl (lv_at hl 0 rfl) ?_
  refine lv_iload_n C.1 C.2.1 dX2_parentOf_1 rfl (lv_at hl 1 rfl) ?_
  obtain ⟨r1, hr1, h2⟩ := bd_some hf
  clear hf
  refine x_callV_i_id (As := [.int (iI v1)]) (rest := []) (q0 := 0) C Z (k_X2_has l g n aH sH v1 r1 hr1) gX2_parentOf_X2_has yk_X2_has ⟨Nat.le_of_ble_eq_true rfl, Nat.le_of_ble_eq_true rfl⟩ rfl rfl ⟨Nat.zero_le _, Nat.zero_le _⟩ hl.1 rfl (Nat.le_of_ble_eq_true rfl) rfl dX2_parentOf_2 (fun H locs Z => ?_)
  have q3 := (ck_some h2).1
  have h4 := (ck_some h2).2
  clear h2
  refine x_if_eq (tgt := 21) C dX2_parentOf_5 (by decide) q3 (fun c5 => ?_) (fun c5 => ?_)
  · have h6 := if_p h4 c5
    clear h4
    refine x_bipush C dX2_parentOf_21 (by decide) ?_
    have h8 := Option.some.inj h6
    subst h8
    exact hRet _ _ _ _ Z dX2_parentOf_23
  · have h7 := if_n h4 c5
    clear h4
    refine lv_iload_n C.1 C.2.1 dX2_parentOf_8 rfl (lv_at hl 1 rfl) ?_
    have q9 := (ck_some h7).1
    have h10 := (ck_some h7).2
    clear h7
    refine x_if_le (tgt := 21) C dX2_parentOf_9 (by decide) q9 (fun c11 => ?_) (fun c11 => ?_)
    · have h12 := if_n h10 c11
      clear h10
      refine x_bipush C dX2_parentOf_21 (by decide) ?_
      have h14 := Option.some.inj h12
      subst h14
      exact hRet _ _ _ _ Z dX2_parentOf_23
    · have h13 := if_p h10 c11
      clear h10
      refine lv_aload_n C.1 C.2.1 dX2_parentOf_12 rfl (lv_at hl 0 rfl) ?_
      refine x_get C Z 0 rfl rfl i_X2_X2_parentOf (k := 0) (by decide) (List.mem_of_getElem? (i := 1) rfl) rfl dX2_parentOf_13 ?_
      refine lv_iload_n C.1 C.2.1 dX2_parentOf_16 rfl (lv_at hl 1 rfl) ?_
      have q15 := (ix_some h13).1
      have h16 := (ix_some h13).2
      clear h13
      refine x_iald C Z 1 rfl (by decide) q15 dX2_parentOf_17 ?_
      refine lv_goto (tgt := 23) C.1 C.2.1 dX2_parentOf_18 (by decide) ?_
      have h17 := Option.some.inj h16
      subst h17
      exact hRet _ _ _ _ Z dX2_parentOf_23
abbrev rmX2_ancestorOf : Room := { frames := 2, cells := 0, slots := 0, locals := 42 }
theorem yk_X2_ancestorOf : xY yX2_ancestorOf RX2 cX2_ancestorOf 5 (some .int) wsX2_ancestorOf rmX2_ancestorOf 2 := ⟨⟨_, rfl⟩, by decide +kernel, rfl, rfl⟩
theorem i_X2_X2_ancestorOf : ∀ w ∈ u_ws RX2 TX2 5, w ∈ wsX2_ancestorOf := fun _ h => List.mem_cons_of_mem _ (List.mem_append_right _ h)
set_option maxHeartbeats 4000000 in
set_option maxRecDepth 100000 in
theorem k_X2_ancestorOf (l : Launch) (g : xG) (n : Nat) (aH : Nat → Nat) (sH : HisS) (v1 : Int) (v2 : Int) (r : Int) (hf : p_X2_ancestorOf n sH v1 v2 = some r) : xMi l yX2_ancestorOf wsX2_ancestorOf rmX2_ancestorOf g [.ref (aH 0), .int (iI v1), .int (iI v2)] (wH g aH sH) (wH g aH sH) r := by
  refine x_ofW_i (own := RX2) (by decide) rfl rfl (Nat.le_of_ble_eq_true rfl) ?_
  intro p e s m args below meth c ls A QQ C hRet Z hl
  have hl : lv_has ls 5 [(0, .ref (aH 0)), (1, .int (iI v1)), (2, .int (iI v2))] := hl
  unfold p_X2_ancestorOf at hf
  refine lv_iload_n C.1 C.2.1 dX2_ancestorOf_0 rfl (lv_at hl 1 rfl) ?_
  refine lv_istore_n (lv' := [(3, .int (iI v1)), (0, .ref (aH 0)), (1, .int (iI v1)), (2, .int (iI v2))]) C.1 C.2.1 dX2_ancestorOf_1 rfl hl (by decide) rfl (fun ls hl => ?_)
  refine x_iconst C dX2_ancestorOf_2 ?_
  refine lv_istore (lv' := [(4, .int (iI 0)), (3, .int (iI v1)), (0, .ref (aH 0)), (1, .int (iI v1)), (2, .int (iI v2))]) C.1 C.2.1 dX2_ancestorOf_3 hl (by decide) rfl (fun ls hl => ?_)
  obtain ⟨ex5, hl5, h33⟩ := bd_some hf
  clear hf
  have hK5 : ∀ (H : Heap) (locs : List Loc) (ls : Array Slot), xSt g A s (wH g aH sH) H locs → lv_has ls 5 [(3, .int (iI ex5))] → W p l e rmX2_ancestorOf s m args below meth c H locs 0 0 QQ (F0 m 29 ls []) := by
    intro H locs ls Z hl
    have h34 := h33
    clear h33
    refine lv_iload_n C.1 C.2.1 dX2_ancestorOf_29 rfl (lv_at hl 0 rfl) ?_
    have h35 := Option.some.inj h34
    subst h35
    exact hRet _ _ _ _ Z dX2_ancestorOf_30
  have hL5 : ∀ (k5 : Nat) (z5 : Int × Int) (H : Heap) (locs : List Loc) (ls : Array Slot), lp (p_X2_ancestorOf_b5 n sH v2) k5 z5 = some ex5 → xSt g A s (wH g aH sH) H locs → lv_has ls 5 [(0, .ref (aH 0)), (2, .int (iI v2)), (3, .int (iI z5.1)), (4, .int (iI z5.2))] → W p l e rmX2_ancestorOf s m args below meth c H locs 0 0 QQ (F0 m 5 ls []) := by
    intro k5
    induction k5 with
    | zero => intro z5 H locs ls h; exact (lp_0 h).elim
    | succ k5 ih5 =>
      intro z5 H locs ls h Z hl
      obtain ⟨x5, hb5, hx5⟩ := lp_s h
      clear h
      unfold p_X2_ancestorOf_b5 at hb5
      refine lv_iload C.1 C.2.1 dX2_ancestorOf_5 (lv_at hl 3 rfl) ?_
      refine lv_iload_n C.1 C.2.1 dX2_ancestorOf_7 rfl (lv_at hl 1 rfl) ?_
      have q17 := (ck_some hb5).1
      have h18 := (ck_some hb5).2
      clear hb5
      have q19 := (ck_some h18).1
      have h20 := (ck_some h18).2
      clear h18
      refine x_icmp_ge (tgt := 29) C dX2_ancestorOf_8 (by decide) q17 q19 (fun c21 => ?_) (fun c21 => ?_)
      · have h22 := if_n h20 c21
        clear h20
        cases h22
        have h24 := lp_R hx5
        subst h24
        exact hK5 _ _ _ Z (lv_sub hl [2] rfl)
      · have h23 := if_p h20 c21
        clear h20
        refine lv_iload_n C.1 C.2.1 dX2_ancestorOf_11 rfl (lv_at hl 2 rfl) ?_
        refine x_bipush C dX2_ancestorOf_12 (by decide) ?_
        have q25 := (ck_some h23).1
        have h26 := (ck_some h23).2
        clear h23
        refine x_icmp_eq (tgt := 29) C dX2_ancestorOf_14 (by decide) q25 (by decide) (fun c27 => ?_) (fun c27 => ?_)
        · have h28 := if_p h26 c27
          clear h26
          cases h28
          have h30 := lp_R hx5
          subst h30
          exact hK5 _ _ _ Z (lv_sub hl [2] rfl)
        · have h29 := if_n h26 c27
          clear h26
          refine lv_aload_n C.1 C.2.1 dX2_ancestorOf_17 rfl (lv_at hl 0 rfl) ?_
          refine lv_iload_n C.1 C.2.1 dX2_ancestorOf_18 rfl (lv_at hl 2 rfl) ?_
          obtain ⟨r31, hr31, h32⟩ := bd_some h29
          clear h29
          refine x_callV_i_id (As := [.int (iI z5.1)]) (rest := []) (q0 := 0) C Z (k_X2_parentOf l g n aH sH z5.1 r31 hr31) gX2_ancestorOf_X2_parentOf yk_X2_parentOf ⟨Nat.le_of_ble_eq_true rfl, Nat.le_of_ble_eq_true rfl⟩ rfl rfl ⟨Nat.zero_le _, Nat.zero_le _⟩ hl.1 rfl (Nat.le_of_ble_eq_true rfl) rfl dX2_ancestorOf_19 (fun H locs Z => ?_)
          refine lv_istore_n (lv' := [(3, .int (iI r31)), (0, .ref (aH 0)), (2, .int (iI v2)), (4, .int (iI z5.2))]) C.1 C.2.1 dX2_ancestorOf_22 rfl hl (by decide) rfl (fun ls hl => ?_)
          refine x_iinc (lv' := [(4, .int (iI (z5.2 + 1))), (3, .int (iI r31)), (0, .ref (aH 0)), (2, .int (iI v2))]) C dX2_ancestorOf_23 hl (k := 3) rfl (by decide) rfl (fun ls hl => ?_)
          refine lv_goto (tgt := 5) C.1 C.2.1 dX2_ancestorOf_26 (by decide) ?_
          cases h32
          exact ih5 (r31, z5.2 + 1) _ _ _ (lp_L2 hx5) Z (lv_sub hl [2, 3, 1, 0] rfl)
  exact hL5 n (v1, 0) _ _ _ hl5 Z (lv_sub hl [2, 4, 1, 0] rfl)
abbrev rmX6_back : Room := { frames := 3, cells := 0, slots := 0, locals := 66 }
theorem yk_X6_back : xY yX6_back RX6 cX6_back 3 (some .int) wsX6_back rmX6_back 1 := ⟨⟨_, rfl⟩, by decide +kernel, rfl, rfl⟩
theorem i_X2_X6_back : ∀ w ∈ u_ws RX2 TX2 5, w ∈ wsX6_back := fun _ h => List.mem_cons_of_mem _ (List.mem_append_right _ h)
theorem i_X6_X6_back : ∀ w ∈ u_ws RX6 TX6 11, w ∈ wsX6_back := fun _ h => List.mem_cons_of_mem _ (List.mem_append_left _ (List.mem_append_right _ h))
set_option maxHeartbeats 4000000 in
set_option maxRecDepth 100000 in
theorem k_X6_back (l : Launch) (g : xG) (n : Nat) (aF : Nat → Nat) (aH : Nat → Nat) (aP : Nat → Nat) (aT : Nat → Nat) (aC : Nat → Nat) (aK : Nat → Nat) (aB : Nat → Nat) (aQ : Nat → Nat) (aU : Nat → Nat) (aV : Nat → Nat) (aS : Nat → Nat) (aR : Nat → Nat) (rr : Nat → Nat) (sF : Int) (sH : HisS) (sP : PadS) (sT : TxtS) (sC : ClsS) (sK : SwpS) (sB : BegS) (sQ : TxtS) (sU : TxtS) (sV : TxtS) (sS : SwpS) (sR : SwpS) (v1 : Int) (r : Int × Int) (hf : p_X6_back n sF sH v1 = some r) : xMi l yX6_back wsX6_back rmX6_back g [.ref (aF 0), .int (iI v1)] ((wF g aF (aH 0) (aP 0) (aT 0) (aC 0) (aB 0) (aQ 0) (aU 0) (aV 0) (aS 0) (aR 0) sF ++ (wH g aH sH ++ (wP g aP sP ++ (wT g aT sT ++ (wC g aC (aK 0) rr sC ++ (wS g aK sK ++ (wB g aB sB ++ (wT g aQ sQ ++ (wT g aU sU ++ (wT g aV sV ++ (wS g aS sS ++ wS g aR sR))))))))))) ++ wR g rr sC.classOf) ((wF g aF (aH 0) (aP 0) (aT 0) (aC 0) (aB 0) (aQ 0) (aU 0) (aV 0) (aS 0) (aR 0) r.2 ++ (wH g aH sH ++ (wP g aP sP ++ (wT g aT sT ++ (wC g aC (aK 0) rr sC ++ (wS g aK sK ++ (wB g aB sB ++ (wT g aQ sQ ++ (wT g aU sU ++ (wT g aV sV ++ (wS g aS sS ++ wS g aR sR))))))))))) ++ wR g rr sC.classOf) r.1 := by
  refine x_ofW_i (own := RX6) (by decide) rfl rfl (Nat.le_of_ble_eq_true rfl) ?_
  intro p e s m args below meth c ls A QQ C hRet Z hl
  have hl : lv_has ls 3 [(0, .ref (aF 0)), (1, .int (iI v1))] := hl
  unfold p_X6_back at hf
  refine lv_iload_n C.1 C.2.1 dX6_back_0 rfl (lv_at hl 1 rfl) ?_
  have q1 := (ck_some hf).1
  have h2 := (ck_some hf).2
  clear hf
  refine x_if_lt (tgt := 11) C dX6_back_1 (by decide) q1 (fun c3 => ?_) (fun c3 => ?_)
  · have h4 := if_p h2 c3
    clear h2
    refine x_bipush C dX6_back_11 (by decide) ?_
    have h6 := Option.some.inj h4
    subst h6
    exact hRet _ _ _ _ Z dX6_back_13
  · have h5 := if_n h2 c3
    clear h2
    refine lv_iload_n C.1 C.2.1 dX6_back_4 rfl (lv_at hl 1 rfl) ?_
    refine x_sipush C dX6_back_5 (by decide) ?_
    refine x_icmp_le (tgt := 14) C dX6_back_8 (by decide) q1 (by decide) (fun c7 => ?_) (fun c7 => ?_)
    · have h8 := if_n h5 c7
      clear h5
      refine lv_aload_n C.1 C.2.1 dX6_back_14 rfl (lv_at hl 0 rfl) ?_
      refine x_get C Z 0 rfl rfl i_X6_X6_back (k := 0) (by decide) (List.mem_of_getElem? (i := 1) rfl) rfl dX6_back_15 ?_
      refine lv_aload_n C.1 C.2.1 dX6_back_18 rfl (lv_at hl 0 rfl) ?_
      refine x_get C Z 0 rfl rfl i_X6_X6_back (k := 10) (by decide) (List.mem_of_getElem? (i := 2) rfl) rfl dX6_back_19 ?_
      refine lv_iload_n C.1 C.2.1 dX6_back_22 rfl (lv_at hl 1 rfl) ?_
      obtain ⟨r10, hr10, h11⟩ := bd_some h8
      clear h8
      refine x_callV_i_Q (As := [.int (iI sF), .int (iI v1)]) (rest := []) (q0 := 0) (X2 := (wF g aF (aH 0) (aP 0) (aT 0) (aC 0) (aB 0) (aQ 0) (aU 0) (aV 0) (aS 0) (aR 0) sF ++ (wH g aH sH ++ (wP g aP sP ++ (wT g aT sT ++ (wC g aC (aK 0) rr sC ++ (wS g aK sK ++ (wB g aB sB ++ (wT g aQ sQ ++ (wT g aU sU ++ (wT g aV sV ++ (wS g aS sS ++ wS g aR sR)))))))))))) C Z fr_FHPTCKBQUVSR_1 (k_X2_ancestorOf l g n aH sH sF v1 r10 hr10) gX6_back_X2_ancestorOf yk_X2_ancestorOf ⟨Nat.le_of_ble_eq_true rfl, Nat.le_of_ble_eq_true rfl⟩ rfl rfl ⟨Nat.zero_le _, Nat.zero_le _⟩ hl.1 rfl (Nat.le_of_ble_eq_true rfl) rfl dX6_back_23 (fun H locs Z => ?_)
      refine lv_istore_n (lv' := [(2, .int (iI r10)), (0, .ref (aF 0)), (1, .int (iI v1))]) C.1 C.2.1 dX6_back_26 rfl hl (by decide) rfl (fun ls hl => ?_)
      refine lv_iload_n C.1 C.2.1 dX6_back_27 rfl (lv_at hl 0 rfl) ?_
      refine x_bipush C dX6_back_28 (by decide) ?_
      have q12 := (ck_some h11).1
      have h13 := (ck_some h11).2
      clear h11
      refine x_icmp_eq (tgt := 38) C dX6_back_30 (by decide) q12 (by decide) (fun c14 => ?_) (fun c14 => ?_)
      · have h15 := if_p h13 c14
        clear h13
        refine lv_iload_n C.1 C.2.1 dX6_back_38 rfl (lv_at hl 0 rfl) ?_
        have h17 := Option.some.inj h15
        subst h17
        exact hRet _ _ _ _ Z dX6_back_39
      · have h16 := if_n h13 c14
        clear h13
        refine lv_aload_n C.1 C.2.1 dX6_back_33 rfl (lv_at hl 1 rfl) ?_
        refine lv_iload_n C.1 C.2.1 dX6_back_34 rfl (lv_at hl 0 rfl) ?_
        refine x_put (ws2 := (wF g aF (aH 0) (aP 0) (aT 0) (aC 0) (aB 0) (aQ 0) (aU 0) (aV 0) (aS 0) (aR 0) r10 ++ (wH g aH sH ++ (wP g aP sP ++ (wT g aT sT ++ (wC g aC (aK 0) rr sC ++ (wS g aK sK ++ (wB g aB sB ++ (wT g aQ sQ ++ (wT g aU sU ++ (wT g aV sV ++ (wS g aS sS ++ wS g aR sR))))))))))) ++ wR g rr sC.classOf) C Z 0 rfl rfl i_X6_X6_back tyX6_ok nmX6 (k := 10) (by decide) (List.mem_of_getElem? (i := 2) rfl) rfl rfl (Nat.le_of_ble_eq_true rfl) dX6_back_35 rfl (fun H locs Z => ?_)
        refine lv_iload_n C.1 C.2.1 dX6_back_38 rfl (lv_at hl 0 rfl) ?_
        have h18 := Option.some.inj h16
        subst h18
        exact hRet _ _ _ _ Z dX6_back_39
    · have h9 := if_p h5 c7
      clear h5
      refine x_bipush C dX6_back_11 (by decide) ?_
      have h19 := Option.some.inj h9
      subst h19
      exact hRet _ _ _ _ Z dX6_back_13
abbrev rmX2_stepOf : Room := { frames := 1, cells := 0, slots := 0, locals := 21 }
theorem yk_X2_stepOf : xY yX2_stepOf RX2 cX2_stepOf 2 (some .int) wsX2_stepOf rmX2_stepOf 1 := ⟨⟨_, rfl⟩, by decide +kernel, rfl, rfl⟩
theorem i_X2_X2_stepOf : ∀ w ∈ u_ws RX2 TX2 5, w ∈ wsX2_stepOf := fun _ h => List.mem_cons_of_mem _ (List.mem_append_right _ h)
set_option maxHeartbeats 4000000 in
set_option maxRecDepth 100000 in
theorem k_X2_stepOf (l : Launch) (g : xG) (n : Nat) (aH : Nat → Nat) (sH : HisS) (v1 : Int) (r : Int) (hf : p_X2_stepOf sH v1 = some r) : xMi l yX2_stepOf wsX2_stepOf rmX2_stepOf g [.ref (aH 0), .int (iI v1)] (wH g aH sH) (wH g aH sH) r := by
  refine x_ofW_i (own := RX2) (by decide) rfl rfl (Nat.le_of_ble_eq_true rfl) ?_
  intro p e s m args below meth c ls A QQ C hRet Z hl
  have hl : lv_has ls 2 [(0, .ref (aH 0)), (1, .int (iI v1))] := hl
  unfold p_X2_stepOf at hf
  refine lv_aload_n C.1 C.2.1 dX2_stepOf_0 rfl (lv_at hl 0 rfl) ?_
  refine lv_iload_n C.1 C.2.1 dX2_stepOf_1 rfl (lv_at hl 1 rfl) ?_
  obtain ⟨r1, hr1, h2⟩ := bd_some hf
  clear hf
  refine x_callV_i_id (As := [.int (iI v1)]) (rest := []) (q0 := 0) C Z (k_X2_has l g n aH sH v1 r1 hr1) gX2_stepOf_X2_has yk_X2_has ⟨Nat.le_of_ble_eq_true rfl, Nat.le_of_ble_eq_true rfl⟩ rfl rfl ⟨Nat.zero_le _, Nat.zero_le _⟩ hl.1 rfl (Nat.le_of_ble_eq_true rfl) rfl dX2_stepOf_2 (fun H locs Z => ?_)
  have q3 := (ck_some h2).1
  have h4 := (ck_some h2).2
  clear h2
  refine x_if_eq (tgt := 17) C dX2_stepOf_5 (by decide) q3 (fun c5 => ?_) (fun c5 => ?_)
  · have h6 := if_p h4 c5
    clear h4
    refine x_bipush C dX2_stepOf_17 (by decide) ?_
    have h8 := Option.some.inj h6
    subst h8
    exact hRet _ _ _ _ Z dX2_stepOf_19
  · have h7 := if_n h4 c5
    clear h4
    refine lv_aload_n C.1 C.2.1 dX2_stepOf_8 rfl (lv_at hl 0 rfl) ?_
    refine x_get C Z 0 rfl rfl i_X2_X2_stepOf (k := 1) (by decide) (List.mem_of_getElem? (i := 1) rfl) rfl dX2_stepOf_9 ?_
    refine lv_iload_n C.1 C.2.1 dX2_stepOf_12 rfl (lv_at hl 1 rfl) ?_
    have q9 := (ix_some h7).1
    have h10 := (ix_some h7).2
    clear h7
    refine x_iald C Z 2 rfl (by decide) q9 dX2_stepOf_13 ?_
    refine lv_goto (tgt := 19) C.1 C.2.1 dX2_stepOf_14 (by decide) ?_
    have h11 := Option.some.inj h10
    subst h11
    exact hRet _ _ _ _ Z dX2_stepOf_19
abbrev rmX5_putStart : Room := { frames := 0, cells := 0, slots := 0, locals := 0 }
theorem yk_X5_putStart : xY yX5_putStart RX5 cX5_putStart 3 none wsX5_putStart rmX5_putStart 2 := ⟨⟨_, rfl⟩, by decide +kernel, rfl, rfl⟩
theorem i_X5_X5_putStart : ∀ w ∈ u_ws RX5 TX5 8, w ∈ wsX5_putStart := fun _ h => List.mem_cons_of_mem _ (List.mem_append_right _ h)
set_option maxHeartbeats 4000000 in
set_option maxRecDepth 100000 in
theorem k_X5_putStart (l : Launch) (g : xG) (n : Nat) (aT : Nat → Nat) (sT : TxtS) (v1 : Int) (v2 : Int) (r : TxtS) (hf : p_X5_putStart sT v1 v2 = some r) : xMv l yX5_putStart wsX5_putStart rmX5_putStart g [.ref (aT 0), .int (iI v1), .int (iI v2)] (wT g aT sT) (wT g aT r) := by
  refine x_ofW_v (own := RX5) (by decide) rfl rfl (Nat.le_of_ble_eq_true rfl) ?_
  intro p e s m args below meth c ls A QQ C hRet Z hl
  have hl : lv_has ls 3 [(0, .ref (aT 0)), (1, .int (iI v1)), (2, .int (iI v2))] := hl
  unfold p_X5_putStart at hf
  refine lv_iload_n C.1 C.2.1 dX5_putStart_0 rfl (lv_at hl 1 rfl) ?_
  have q1 := (ck_some hf).1
  have h2 := (ck_some hf).2
  clear hf
  refine x_if_lt (tgt := 17) C dX5_putStart_1 (by decide) q1 (fun c3 => ?_) (fun c3 => ?_)
  · have h4 := if_p h2 c3
    clear h2
    have h6 := Option.some.inj h4
    subst h6
    exact hRet _ _ _ _ Z dX5_putStart_17
  · have h5 := if_n h2 c3
    clear h2
    refine lv_iload_n C.1 C.2.1 dX5_putStart_4 rfl (lv_at hl 1 rfl) ?_
    refine x_bipush C dX5_putStart_5 (by decide) ?_
    refine x_icmp_ge (tgt := 17) C dX5_putStart_7 (by decide) q1 (by decide) (fun c7 => ?_) (fun c7 => ?_)
    · have h8 := if_n h5 c7
      clear h5
      have h10 := Option.some.inj h8
      subst h10
      exact hRet _ _ _ _ Z dX5_putStart_17
    · have h9 := if_p h5 c7
      clear h5
      refine lv_aload_n C.1 C.2.1 dX5_putStart_10 rfl (lv_at hl 0 rfl) ?_
      refine x_get C Z 0 rfl rfl i_X5_X5_putStart (k := 4) (by decide) (List.mem_of_getElem? (i := 1) rfl) rfl dX5_putStart_11 ?_
      refine lv_iload_n C.1 C.2.1 dX5_putStart_14 rfl (lv_at hl 1 rfl) ?_
      refine lv_iload_n C.1 C.2.1 dX5_putStart_15 rfl (lv_at hl 2 rfl) ?_
      have q11 := (ix_some h9).1
      have h12 := (ix_some h9).2
      clear h9
      refine x_iast (ws2 := wT g aT (sT.letters, sT.words, sT.places, sT.rests, up sT.starts v1 v2, sT.wordCount, sT.length, sT.version)) C Z 5 rfl (by decide) q11 dX5_putStart_16 rfl (fun H locs Z => ?_)
      have h13 := Option.some.inj h12
      subst h13
      exact hRet _ _ _ _ Z dX5_putStart_17
abbrev rmX5_has : Room := { frames := 0, cells := 0, slots := 0, locals := 0 }
theorem yk_X5_has : xY yX5_has RX5 cX5_has 2 (some .boolean) wsX5_has rmX5_has 1 := ⟨⟨_, rfl⟩, by decide +kernel, rfl, rfl⟩
theorem i_X5_X5_has : ∀ w ∈ u_ws RX5 TX5 8, w ∈ wsX5_has := fun _ h => List.mem_cons_of_mem _ (List.mem_append_right _ h)
set_option maxHeartbeats 4000000 in
set_option maxRecDepth 100000 in
theorem k_X5_has (l : Launch) (g : xG) (n : Nat) (aT : Nat → Nat) (sT : TxtS) (v1 : Int) (r : Int) (hf : p_X5_has sT v1 = some r) : xMi l yX5_has wsX5_has rmX5_has g [.ref (aT 0), .int (iI v1)] (wT g aT sT) (wT g aT sT) r := by
  refine x_ofW_z (own := RX5) (by decide) rfl rfl (Nat.le_of_ble_eq_true rfl) ?_
  intro p e s m args below meth c ls A QQ C hRet Z hl
  have hl : lv_has ls 2 [(0, .ref (aT 0)), (1, .int (iI v1))] := hl
  unfold p_X5_has at hf
  refine lv_iload_n C.1 C.2.1 dX5_has_0 rfl (lv_at hl 1 rfl) ?_
  have q1 := (ck_some hf).1
  have h2 := (ck_some hf).2
  clear hf
  refine x_if_lt (tgt := 16) C dX5_has_1 (by decide) q1 (fun c3 => ?_) (fun c3 => ?_)
  · have h4 := if_p h2 c3
    clear h2
    refine x_iconst C dX5_has_16 ?_
    have h6 := Option.some.inj h4
    subst h6
    exact hRet _ _ _ _ (x_bool (Or.inl rfl)) Z dX5_has_17
  · have h5 := if_n h2 c3
    clear h2
    refine lv_iload_n C.1 C.2.1 dX5_has_4 rfl (lv_at hl 1 rfl) ?_
    refine lv_aload_n C.1 C.2.1 dX5_has_5 rfl (lv_at hl 0 rfl) ?_
    refine x_get C Z 0 rfl rfl i_X5_X5_has (k := 6) (by decide) (List.mem_of_getElem? (i := 1) rfl) rfl dX5_has_6 ?_
    have q7 := (ck_some h5).1
    have h8 := (ck_some h5).2
    clear h5
    refine x_icmp_ge (tgt := 16) C dX5_has_9 (by decide) q1 q7 (fun c9 => ?_) (fun c9 => ?_)
    · have h10 := if_n h8 c9
      clear h8
      refine x_iconst C dX5_has_16 ?_
      have h12 := Option.some.inj h10
      subst h12
      exact hRet _ _ _ _ (x_bool (Or.inl rfl)) Z dX5_has_17
    · have h11 := if_p h8 c9
      clear h8
      refine x_iconst C dX5_has_12 ?_
      refine lv_goto (tgt := 17) C.1 C.2.1 dX5_has_13 (by decide) ?_
      have h13 := Option.some.inj h11
      subst h13
      exact hRet _ _ _ _ (x_bool (Or.inr rfl)) Z dX5_has_17
abbrev rmX5_putLetter : Room := { frames := 1, cells := 0, slots := 0, locals := 21 }
theorem yk_X5_putLetter : xY yX5_putLetter RX5 cX5_putLetter 4 none wsX5_putLetter rmX5_putLetter 3 := ⟨⟨_, rfl⟩, by decide +kernel, rfl, rfl⟩
theorem i_X5_X5_putLetter : ∀ w ∈ u_ws RX5 TX5 8, w ∈ wsX5_putLetter := fun _ h => List.mem_cons_of_mem _ (List.mem_append_right _ h)
set_option maxHeartbeats 4000000 in
set_option maxRecDepth 100000 in
theorem k_X5_putLetter (l : Launch) (g : xG) (n : Nat) (aT : Nat → Nat) (sT : TxtS) (v1 : Int) (v2 : Int) (v3 : Int) (r : TxtS) (hf : p_X5_putLetter sT v1 v2 v3 = some r) : xMv l yX5_putLetter wsX5_putLetter rmX5_putLetter g [.ref (aT 0), .int (iI v1), .int (iI v2), .int (iI v3)] (wT g aT sT) (wT g aT r) := by
  refine x_ofW_v (own := RX5) (by decide) rfl rfl (Nat.le_of_ble_eq_true rfl) ?_
  intro p e s m args below meth c ls A QQ C hRet Z hl
  have hl : lv_has ls 4 [(0, .ref (aT 0)), (1, .int (iI v1)), (2, .int (iI v2)), (3, .int (iI v3))] := hl
  unfold p_X5_putLetter at hf
  refine lv_aload_n C.1 C.2.1 dX5_putLetter_0 rfl (lv_at hl 0 rfl) ?_
  refine lv_iload_n C.1 C.2.1 dX5_putLetter_1 rfl (lv_at hl 1 rfl) ?_
  obtain ⟨r1, hr1, h2⟩ := bd_some hf
  clear hf
  refine x_callV_i_id (As := [.int (iI v1)]) (rest := []) (q0 := 0) C Z (k_X5_has l g n aT sT v1 r1 hr1) gX5_putLetter_X5_has yk_X5_has ⟨Nat.le_of_ble_eq_true rfl, Nat.le_of_ble_eq_true rfl⟩ rfl rfl ⟨Nat.zero_le _, Nat.zero_le _⟩ hl.1 rfl (Nat.le_of_ble_eq_true rfl) rfl dX5_putLetter_2 (fun H locs Z => ?_)
  have q3 := (ck_some h2).1
  have h4 := (ck_some h2).2
  clear h2
  refine x_if_eq (tgt := 22) C dX5_putLetter_5 (by decide) q3 (fun c5 => ?_) (fun c5 => ?_)
  · have h6 := if_p h4 c5
    clear h4
    have h8 := Option.some.inj h6
    subst h8
    exact hRet _ _ _ _ Z dX5_putLetter_22
  · have h7 := if_n h4 c5
    clear h4
    refine lv_aload_n C.1 C.2.1 dX5_putLetter_8 rfl (lv_at hl 0 rfl) ?_
    refine x_get C Z 0 rfl rfl i_X5_X5_putLetter (k := 0) (by decide) (List.mem_of_getElem? (i := 1) rfl) rfl dX5_putLetter_9 ?_
    refine lv_iload_n C.1 C.2.1 dX5_putLetter_12 rfl (lv_at hl 1 rfl) ?_
    refine lv_iload_n C.1 C.2.1 dX5_putLetter_13 rfl (lv_at hl 2 rfl) ?_
    have q9 := (ix_some h7).1
    have h10 := (ix_some h7).2
    clear h7
    refine x_iast (ws2 := wT g aT (up sT.letters v1 v2, sT.words, sT.places, sT.rests, sT.starts, sT.wordCount, sT.length, sT.version)) C Z 1 rfl (by decide) q9 dX5_putLetter_14 rfl (fun H locs Z => ?_)
    refine lv_aload_n C.1 C.2.1 dX5_putLetter_15 rfl (lv_at hl 0 rfl) ?_
    refine x_get C Z 0 rfl rfl i_X5_X5_putLetter (k := 1) (by decide) (List.mem_of_getElem? (i := 2) rfl) rfl dX5_putLetter_16 ?_
    refine lv_iload_n C.1 C.2.1 dX5_putLetter_19 rfl (lv_at hl 1 rfl) ?_
    refine lv_iload_n C.1 C.2.1 dX5_putLetter_20 rfl (lv_at hl 3 rfl) ?_
    refine x_iast (ws2 := wT g aT (up sT.letters v1 v2, up sT.words v1 v3, sT.places, sT.rests, sT.starts, sT.wordCount, sT.length, sT.version)) C Z 2 rfl (by decide) q9 dX5_putLetter_21 rfl (fun H locs Z => ?_)
    have h11 := Option.some.inj h10
    subst h11
    exact hRet _ _ _ _ Z dX5_putLetter_22
abbrev rmX5_wordStart : Room := { frames := 0, cells := 0, slots := 0, locals := 0 }
theorem yk_X5_wordStart : xY yX5_wordStart RX5 cX5_wordStart 2 (some .int) wsX5_wordStart rmX5_wordStart 1 := ⟨⟨_, rfl⟩, by decide +kernel, rfl, rfl⟩
theorem i_X5_X5_wordStart : ∀ w ∈ u_ws RX5 TX5 8, w ∈ wsX5_wordStart := fun _ h => List.mem_cons_of_mem _ (List.mem_append_right _ h)
set_option maxHeartbeats 4000000 in
set_option maxRecDepth 100000 in
theorem k_X5_wordStart (l : Launch) (g : xG) (n : Nat) (aT : Nat → Nat) (sT : TxtS) (v1 : Int) (r : Int) (hf : p_X5_wordStart sT v1 = some r) : xMi l yX5_wordStart wsX5_wordStart rmX5_wordStart g [.ref (aT 0), .int (iI v1)] (wT g aT sT) (wT g aT sT) r := by
  refine x_ofW_i (own := RX5) (by decide) rfl rfl (Nat.le_of_ble_eq_true rfl) ?_
  intro p e s m args below meth c ls A QQ C hRet Z hl
  have hl : lv_has ls 2 [(0, .ref (aT 0)), (1, .int (iI v1))] := hl
  unfold p_X5_wordStart at hf
  refine lv_iload_n C.1 C.2.1 dX5_wordStart_0 rfl (lv_at hl 1 rfl) ?_
  have q1 := (ck_some hf).1
  have h2 := (ck_some hf).2
  clear hf
  refine x_if_lt (tgt := 21) C dX5_wordStart_1 (by decide) q1 (fun c3 => ?_) (fun c3 => ?_)
  · have h4 := if_p h2 c3
    clear h2
    refine lv_aload_n C.1 C.2.1 dX5_wordStart_21 rfl (lv_at hl 0 rfl) ?_
    refine x_get C Z 0 rfl rfl i_X5_X5_wordStart (k := 6) (by decide) (List.mem_of_getElem? (i := 3) rfl) rfl dX5_wordStart_22 ?_
    have h6 := Option.some.inj h4
    subst h6
    exact hRet _ _ _ _ Z dX5_wordStart_25
  · have h5 := if_n h2 c3
    clear h2
    refine lv_iload_n C.1 C.2.1 dX5_wordStart_4 rfl (lv_at hl 1 rfl) ?_
    refine lv_aload_n C.1 C.2.1 dX5_wordStart_5 rfl (lv_at hl 0 rfl) ?_
    refine x_get C Z 0 rfl rfl i_X5_X5_wordStart (k := 5) (by decide) (List.mem_of_getElem? (i := 1) rfl) rfl dX5_wordStart_6 ?_
    have q7 := (ck_some h5).1
    have h8 := (ck_some h5).2
    clear h5
    refine x_icmp_ge (tgt := 21) C dX5_wordStart_9 (by decide) q1 q7 (fun c9 => ?_) (fun c9 => ?_)
    · have h10 := if_n h8 c9
      clear h8
      refine lv_aload_n C.1 C.2.1 dX5_wordStart_21 rfl (lv_at hl 0 rfl) ?_
      refine x_get C Z 0 rfl rfl i_X5_X5_wordStart (k := 6) (by decide) (List.mem_of_getElem? (i := 3) rfl) rfl dX5_wordStart_22 ?_
      have h12 := Option.some.inj h10
      subst h12
      exact hRet _ _ _ _ Z dX5_wordStart_25
    · have h11 := if_p h8 c9
      clear h8
      refine lv_aload_n C.1 C.2.1 dX5_wordStart_12 rfl (lv_at hl 0 rfl) ?_
      refine x_get C Z 0 rfl rfl i_X5_X5_wordStart (k := 4) (by decide) (List.mem_of_getElem? (i := 2) rfl) rfl dX5_wordStart_13 ?_
      refine lv_iload_n C.1 C.2.1 dX5_wordStart_16 rfl (lv_at hl 1 rfl) ?_
      have q13 := (ix_some h11).1
      have h14 := (ix_some h11).2
      clear h11
      refine x_iald C Z 5 rfl (by decide) q13 dX5_wordStart_17 ?_
      refine lv_goto (tgt := 25) C.1 C.2.1 dX5_wordStart_18 (by decide) ?_
      have h15 := Option.some.inj h14
      subst h15
      exact hRet _ _ _ _ Z dX5_wordStart_25
abbrev rmX5_wordEnd : Room := { frames := 1, cells := 0, slots := 0, locals := 21 }
theorem yk_X5_wordEnd : xY yX5_wordEnd RX5 cX5_wordEnd 2 (some .int) wsX5_wordEnd rmX5_wordEnd 1 := ⟨⟨_, rfl⟩, by decide +kernel, rfl, rfl⟩
theorem i_X5_X5_wordEnd : ∀ w ∈ u_ws RX5 TX5 8, w ∈ wsX5_wordEnd := fun _ h => List.mem_cons_of_mem _ (List.mem_append_right _ h)
set_option maxHeartbeats 4000000 in
set_option maxRecDepth 100000 in
theorem k_X5_wordEnd (l : Launch) (g : xG) (n : Nat) (aT : Nat → Nat) (sT : TxtS) (v1 : Int) (r : Int) (hf : p_X5_wordEnd sT v1 = some r) : xMi l yX5_wordEnd wsX5_wordEnd rmX5_wordEnd g [.ref (aT 0), .int (iI v1)] (wT g aT sT) (wT g aT sT) r := by
  refine x_ofW_i (own := RX5) (by decide) rfl rfl (Nat.le_of_ble_eq_true rfl) ?_
  intro p e s m args below meth c ls A QQ C hRet Z hl
  have hl : lv_has ls 2 [(0, .ref (aT 0)), (1, .int (iI v1))] := hl
  unfold p_X5_wordEnd at hf
  refine lv_aload_n C.1 C.2.1 dX5_wordEnd_0 rfl (lv_at hl 0 rfl) ?_
  refine lv_iload_n C.1 C.2.1 dX5_wordEnd_1 rfl (lv_at hl 1 rfl) ?_
  refine x_iconst C dX5_wordEnd_2 ?_
  refine x_iadd C dX5_wordEnd_3 ?_
  obtain ⟨r1, hr1, h2⟩ := bd_some hf
  clear hf
  refine x_callV_i_id (As := [.int (iI (v1 + 1))]) (rest := []) (q0 := 0) C Z (k_X5_wordStart l g n aT sT (v1 + 1) r1 hr1) gX5_wordEnd_X5_wordStart yk_X5_wordStart ⟨Nat.le_of_ble_eq_true rfl, Nat.le_of_ble_eq_true rfl⟩ rfl rfl ⟨Nat.zero_le _, Nat.zero_le _⟩ hl.1 rfl (Nat.le_of_ble_eq_true rfl) rfl dX5_wordEnd_4 (fun H locs Z => ?_)
  have h3 := Option.some.inj h2
  subst h3
  exact hRet _ _ _ _ Z dX5_wordEnd_7
abbrev rmX5_takeVersion : Room := { frames := 2, cells := 0, slots := 0, locals := 44 }
theorem yk_X5_takeVersion : xY yX5_takeVersion RX5 cX5_takeVersion 6 none wsX5_takeVersion rmX5_takeVersion 2 := ⟨⟨_, rfl⟩, by decide +kernel, rfl, rfl⟩
theorem i_X2_X5_takeVersion : ∀ w ∈ u_ws RX2 TX2 5, w ∈ wsX5_takeVersion := fun _ h => List.mem_cons_of_mem _ (List.mem_append_right _ h)
theorem i_X5_X5_takeVersion : ∀ w ∈ u_ws RX5 TX5 8, w ∈ wsX5_takeVersion := fun _ h => List.mem_cons_of_mem _ (List.mem_append_left _ (List.mem_append_right _ h))
set_option maxHeartbeats 4000000 in
set_option maxRecDepth 100000 in
theorem k_X5_takeVersion (l : Launch) (g : xG) (n : Nat) (aT : Nat → Nat) (aH : Nat → Nat) (sT : TxtS) (sH : HisS) (v2 : Int) (r : TxtS) (hf : p_X5_takeVersion n sT sH v2 = some r) : xMv l yX5_takeVersion wsX5_takeVersion rmX5_takeVersion g [.ref (aT 0), .ref (aH 0), .int (iI v2)] (wT g aT sT ++ wH g aH sH) (wT g aT r ++ wH g aH sH) := by
  refine x_ofW_v (own := RX5) (by decide) rfl rfl (Nat.le_of_ble_eq_true rfl) ?_
  intro p e s m args below meth c ls A QQ C hRet Z hl
  have hl : lv_has ls 6 [(0, .ref (aT 0)), (1, .ref (aH 0)), (2, .int (iI v2))] := hl
  unfold p_X5_takeVersion at hf
  refine lv_aload_n C.1 C.2.1 dX5_takeVersion_0 rfl (lv_at hl 0 rfl) ?_
  refine x_get C Z 0 rfl rfl i_X5_X5_takeVersion (k := 7) (by decide) (List.mem_of_getElem? (i := 1) rfl) rfl dX5_takeVersion_1 ?_
  refine lv_iload_n C.1 C.2.1 dX5_takeVersion_4 rfl (lv_at hl 2 rfl) ?_
  have q1 := (ck_some hf).1
  have h2 := (ck_some hf).2
  clear hf
  have q3 := (ck_some h2).1
  have h4 := (ck_some h2).2
  clear h2
  refine x_icmp_ne (tgt := 9) C dX5_takeVersion_5 (by decide) q1 q3 (fun c5 => ?_) (fun c5 => ?_)
  · have h6 := if_n h4 c5
    clear h4
    refine lv_aload_n C.1 C.2.1 dX5_takeVersion_9 rfl (lv_at hl 0 rfl) ?_
    refine lv_iload_n C.1 C.2.1 dX5_takeVersion_10 rfl (lv_at hl 2 rfl) ?_
    refine x_put (ws2 := wT g aT (sT.letters, sT.words, sT.places, sT.rests, sT.starts, sT.wordCount, sT.length, v2) ++ wH g aH sH) C Z 0 rfl rfl i_X5_X5_takeVersion tyX5_ok nmX5 (k := 7) (by decide) (List.mem_of_getElem? (i := 1) rfl) rfl rfl (Nat.le_of_ble_eq_true rfl) dX5_takeVersion_11 rfl (fun H locs Z => ?_)
    refine lv_aload_n C.1 C.2.1 dX5_takeVersion_14 rfl (lv_at hl 0 rfl) ?_
    refine lv_aload_n C.1 C.2.1 dX5_takeVersion_15 rfl (lv_at hl 1 rfl) ?_
    refine lv_iload_n C.1 C.2.1 dX5_takeVersion_16 rfl (lv_at hl 2 rfl) ?_
    obtain ⟨r8, hr8, h9⟩ := bd_some h6
    clear h6
    refine x_callV_i_J (As := [.int (iI v2)]) (rest := [.ref (aT 0)]) (q0 := 0) (ws2 := wT g aT (sT.letters, sT.words, sT.places, sT.rests, sT.starts, sT.wordCount, sT.length, v2) ++ wH g aH sH) C Z fr_TH_1 (k_X2_wordsIn l g n aH sH v2 r8 hr8) gX5_takeVersion_X2_wordsIn yk_X2_wordsIn ⟨Nat.le_of_ble_eq_true rfl, Nat.le_of_ble_eq_true rfl⟩ rfl rfl ⟨Nat.zero_le _, Nat.zero_le _⟩ hl.1 rfl (Nat.le_of_ble_eq_true rfl) rfl dX5_takeVersion_17 (fun H locs Z => ?_)
    refine x_bipush C dX5_takeVersion_20 (by decide) ?_
    have q10 := (ck_some h9).1
    have h11 := (ck_some h9).2
    clear h9
    refine x_mmin (rest := [.ref (aT 0)]) C hl.1 (List.mem_of_getElem? (i := 2) rfl) (List.mem_of_getElem? (i := 3) rfl) (List.mem_of_getElem? (i := 4) rfl) (List.mem_of_getElem? (i := 5) rfl) (by decide) (by decide) (Nat.le_of_ble_eq_true rfl) ⟨Nat.zero_le _, Nat.zero_le _⟩ q10 (by decide) dX5_takeVersion_22 ?_
    refine x_put (ws2 := wT g aT (sT.letters, sT.words, sT.places, sT.rests, sT.starts, min r8 6, sT.length, v2) ++ wH g aH sH) C Z 0 rfl rfl i_X5_X5_takeVersion tyX5_ok nmX5 (k := 5) (by decide) (List.mem_of_getElem? (i := 6) rfl) rfl rfl (Nat.le_of_ble_eq_true rfl) dX5_takeVersion_25 rfl (fun H locs Z => ?_)
    refine lv_aload_n C.1 C.2.1 dX5_takeVersion_28 rfl (lv_at hl 0 rfl) ?_
    refine lv_aload_n C.1 C.2.1 dX5_takeVersion_29 rfl (lv_at hl 1 rfl) ?_
    refine lv_iload_n C.1 C.2.1 dX5_takeVersion_30 rfl (lv_at hl 2 rfl) ?_
    obtain ⟨r12, hr12, h13⟩ := bd_some h11
    clear h11
    refine x_callV_i_J (As := [.int (iI v2)]) (rest := [.ref (aT 0)]) (q0 := 0) (ws2 := wT g aT (sT.letters, sT.words, sT.places, sT.rests, sT.starts, min r8 6, sT.length, v2) ++ wH g aH sH) C Z fr_TH_1 (k_X2_lettersIn l g n aH sH v2 r12 hr12) gX5_takeVersion_X2_lettersIn yk_X2_lettersIn ⟨Nat.le_of_ble_eq_true rfl, Nat.le_of_ble_eq_true rfl⟩ rfl rfl ⟨Nat.zero_le _, Nat.zero_le _⟩ hl.1 rfl (Nat.le_of_ble_eq_true rfl) rfl dX5_takeVersion_31 (fun H locs Z => ?_)
    refine x_bipush C dX5_takeVersion_34 (by decide) ?_
    have q14 := (ck_some h13).1
    have h15 := (ck_some h13).2
    clear h13
    refine x_mmin (rest := [.ref (aT 0)]) C hl.1 (List.mem_of_getElem? (i := 2) rfl) (List.mem_of_getElem? (i := 3) rfl) (List.mem_of_getElem? (i := 4) rfl) (List.mem_of_getElem? (i := 5) rfl) (by decide) (by decide) (Nat.le_of_ble_eq_true rfl) ⟨Nat.zero_le _, Nat.zero_le _⟩ q14 (by decide) dX5_takeVersion_36 ?_
    refine x_put (ws2 := wT g aT (sT.letters, sT.words, sT.places, sT.rests, sT.starts, min r8 6, min r12 60, v2) ++ wH g aH sH) C Z 0 rfl rfl i_X5_X5_takeVersion tyX5_ok nmX5 (k := 6) (by decide) (List.mem_of_getElem? (i := 7) rfl) rfl rfl (Nat.le_of_ble_eq_true rfl) dX5_takeVersion_39 rfl (fun H locs Z => ?_)
    refine lv_iload_n C.1 C.2.1 dX5_takeVersion_42 rfl (lv_at hl 2 rfl) ?_
    refine lv_istore_n (lv' := [(3, .int (iI v2)), (0, .ref (aT 0)), (1, .ref (aH 0)), (2, .int (iI v2))]) C.1 C.2.1 dX5_takeVersion_43 rfl hl (by decide) rfl (fun ls hl => ?_)
    refine x_iconst C dX5_takeVersion_44 ?_
    refine lv_istore (lv' := [(4, .int (iI 0)), (3, .int (iI v2)), (0, .ref (aT 0)), (1, .ref (aH 0)), (2, .int (iI v2))]) C.1 C.2.1 dX5_takeVersion_45 hl (by decide) rfl (fun ls hl => ?_)
    obtain ⟨ex47, hl47, h83⟩ := bd_some h15
    clear h15
    have hK47 : ∀ (H : Heap) (locs : List Loc) (ls : Array Slot), xSt g A s (wT g aT ex47 ++ wH g aH sH) H locs → lv_has ls 6 [(0, .ref (aT 0))] → W p l e rmX5_takeVersion s m args below meth c H locs 0 0 QQ (F0 m 121 ls []) := by
      intro H locs ls Z hl
      have h84 := h83
      clear h83
      refine x_iconst C dX5_takeVersion_121 ?_
      refine lv_istore (lv' := [(4, .int (iI 0)), (0, .ref (aT 0))]) C.1 C.2.1 dX5_takeVersion_122 hl (by decide) rfl (fun ls hl => ?_)
      obtain ⟨ex124, hl124, h117⟩ := bd_some h84
      clear h84
      have hK124 : ∀ (H : Heap) (locs : List Loc) (ls : Array Slot), xSt g A s (wT g aT (ex47.letters, ex47.words, ex124.1, ex124.2, ex47.starts, ex47.wordCount, ex47.length, ex47.version) ++ wH g aH sH) H locs → lv_has ls 6 [] → W p l e rmX5_takeVersion s m args below meth c H locs 0 0 QQ (F0 m 181 ls []) := by
        intro H locs ls Z hl
        have h118 := h117
        clear h117
        have h119 := Option.some.inj h118
        subst h119
        exact hRet _ _ _ _ Z dX5_takeVersion_181
      have hL124 : ∀ (k124 : Nat) (z124 : Int × Row × Row) (H : Heap) (locs : List Loc) (ls : Array Slot), lp (p_X5_takeVersion_b124 n ex47) k124 z124 = some ex124 → xSt g A s (wT g aT (ex47.letters, ex47.words, z124.2.1, z124.2.2, ex47.starts, ex47.wordCount, ex47.length, ex47.version) ++ wH g aH sH) H locs → lv_has ls 6 [(0, .ref (aT 0)), (4, .int (iI z124.1))] → W p l e rmX5_takeVersion s m args below meth c H locs 0 0 QQ (F0 m 124 ls []) := by
        intro k124
        induction k124 with
        | zero => intro z124 H locs ls h; exact (lp_0 h).elim
        | succ k124 ih124 =>
          intro z124 H locs ls h Z hl
          obtain ⟨x124, hb124, hx124⟩ := lp_s h
          clear h
          unfold p_X5_takeVersion_b124 at hb124
          refine lv_iload C.1 C.2.1 dX5_takeVersion_124 (lv_at hl 1 rfl) ?_
          refine lv_aload_n C.1 C.2.1 dX5_takeVersion_126 rfl (lv_at hl 0 rfl) ?_
          refine x_get C Z 0 rfl rfl i_X5_X5_takeVersion (k := 6) (by decide) (List.mem_of_getElem? (i := 7) rfl) rfl dX5_takeVersion_127 ?_
          have q101 := (ck_some hb124).1
          have h102 := (ck_some hb124).2
          clear hb124
          have q103 := (ck_some h102).1
          have h104 := (ck_some h102).2
          clear h102
          refine x_icmp_ge (tgt := 181) C dX5_takeVersion_130 (by decide) q101 q103 (fun c105 => ?_) (fun c105 => ?_)
          · have h106 := if_n h104 c105
            clear h104
            cases h106
            have h108 := lp_R hx124
            subst h108
            exact hK124 _ _ _ Z (lv_sub hl [] rfl)
          · have h107 := if_p h104 c105
            clear h104
            refine lv_aload_n C.1 C.2.1 dX5_takeVersion_133 rfl (lv_at hl 0 rfl) ?_
            refine x_get C Z 0 rfl rfl i_X5_X5_takeVersion (k := 2) (by decide) (List.mem_of_getElem? (i := 8) rfl) rfl dX5_takeVersion_134 ?_
            refine lv_iload C.1 C.2.1 dX5_takeVersion_137 (lv_at hl 1 rfl) ?_
            refine lv_iload C.1 C.2.1 dX5_takeVersion_139 (lv_at hl 1 rfl) ?_
            refine lv_aload_n C.1 C.2.1 dX5_takeVersion_141 rfl (lv_at hl 0 rfl) ?_
            refine lv_aload_n C.1 C.2.1 dX5_takeVersion_142 rfl (lv_at hl 0 rfl) ?_
            refine x_get C Z 0 rfl rfl i_X5_X5_takeVersion (k := 1) (by decide) (List.mem_of_getElem? (i := 9) rfl) rfl dX5_takeVersion_143 ?_
            refine lv_iload C.1 C.2.1 dX5_takeVersion_146 (lv_at hl 1 rfl) ?_
            have q109 := (ix_some h107).1
            have h110 := (ix_some h107).2
            clear h107
            refine x_iald C Z 2 rfl (by decide) q109 dX5_takeVersion_148 ?_
            obtain ⟨r111, hr111, h112⟩ := bd_some h110
            clear h110
            refine x_callV_i_J (As := [.int (iI (ex47.words z124.1))]) (rest := [.int (iI z124.1), .int (iI z124.1), .ref (aT 3)]) (q0 := 0) (ws2 := wT g aT (ex47.letters, ex47.words, z124.2.1, z124.2.2, ex47.starts, ex47.wordCount, ex47.length, ex47.version) ++ wH g aH sH) C Z fr_TH_0 (k_X5_wordStart l g n aT (ex47.letters, ex47.words, z124.2.1, z124.2.2, ex47.starts, ex47.wordCount, ex47.length, ex47.version) (ex47.words z124.1) r111 hr111) gX5_takeVersion_X5_wordStart yk_X5_wordStart ⟨Nat.le_of_ble_eq_true rfl, Nat.le_of_ble_eq_true rfl⟩ rfl rfl ⟨Nat.zero_le _, Nat.zero_le _⟩ hl.1 rfl (Nat.le_of_ble_eq_true rfl) rfl dX5_takeVersion_149 (fun H locs Z => ?_)
            refine x_isub C dX5_takeVersion_152 ?_
            refine x_iast (ws2 := wT g aT (ex47.letters, ex47.words, up z124.2.1 z124.1 (z124.1 - r111), z124.2.2, ex47.starts, ex47.wordCount, ex47.length, ex47.version) ++ wH g aH sH) C Z 3 rfl (by decide) q109 dX5_takeVersion_153 rfl (fun H locs Z => ?_)
            refine lv_aload_n C.1 C.2.1 dX5_takeVersion_154 rfl (lv_at hl 0 rfl) ?_
            refine x_get C Z 0 rfl rfl i_X5_X5_takeVersion (k := 3) (by decide) (List.mem_of_getElem? (i := 10) rfl) rfl dX5_takeVersion_155 ?_
            refine lv_iload C.1 C.2.1 dX5_takeVersion_158 (lv_at hl 1 rfl) ?_
            refine lv_aload_n C.1 C.2.1 dX5_takeVersion_160 rfl (lv_at hl 0 rfl) ?_
            refine lv_aload_n C.1 C.2.1 dX5_takeVersion_161 rfl (lv_at hl 0 rfl) ?_
            refine x_get C Z 0 rfl rfl i_X5_X5_takeVersion (k := 1) (by decide) (List.mem_of_getElem? (i := 9) rfl) rfl dX5_takeVersion_162 ?_
            refine lv_iload C.1 C.2.1 dX5_takeVersion_165 (lv_at hl 1 rfl) ?_
            refine x_iald C Z 2 rfl (by decide) q109 dX5_takeVersion_167 ?_
            obtain ⟨r115, hr115, h116⟩ := bd_some h112
            clear h112
            refine x_callV_i_J (As := [.int (iI (ex47.words z124.1))]) (rest := [.int (iI z124.1), .ref (aT 4)]) (q0 := 0) (ws2 := wT g aT (ex47.letters, ex47.words, up z124.2.1 z124.1 (z124.1 - r111), z124.2.2, ex47.starts, ex47.wordCount, ex47.length, ex47.version) ++ wH g aH sH) C Z fr_TH_0 (k_X5_wordEnd l g n aT (ex47.letters, ex47.words, up z124.2.1 z124.1 (z124.1 - r111), z124.2.2, ex47.starts, ex47.wordCount, ex47.length, ex47.version) (ex47.words z124.1) r115 hr115) gX5_takeVersion_X5_wordEnd yk_X5_wordEnd ⟨Nat.le_of_ble_eq_true rfl, Nat.le_of_ble_eq_true rfl⟩ rfl rfl ⟨Nat.zero_le _, Nat.zero_le _⟩ hl.1 rfl (Nat.le_of_ble_eq_true rfl) rfl dX5_takeVersion_168 (fun H locs Z => ?_)
            refine lv_iload C.1 C.2.1 dX5_takeVersion_171 (lv_at hl 1 rfl) ?_
            refine x_isub C dX5_takeVersion_173 ?_
            refine x_iast (ws2 := wT g aT (ex47.letters, ex47.words, up z124.2.1 z124.1 (z124.1 - r111), up z124.2.2 z124.1 (r115 - z124.1), ex47.starts, ex47.wordCount, ex47.length, ex47.version) ++ wH g aH sH) C Z 4 rfl (by decide) q109 dX5_takeVersion_174 rfl (fun H locs Z => ?_)
            refine x_iinc (lv' := [(4, .int (iI (z124.1 + 1))), (0, .ref (aT 0))]) C dX5_takeVersion_175 hl (k := 1) rfl (by decide) rfl (fun ls hl => ?_)
            refine lv_goto (tgt := 124) C.1 C.2.1 dX5_takeVersion_178 (by decide) ?_
            cases h116
            exact ih124 (z124.1 + 1, up z124.2.1 z124.1 (z124.1 - r111), up z124.2.2 z124.1 (r115 - z124.1)) _ _ _ (lp_L2 hx124) Z (lv_sub hl [1, 0] rfl)
      exact hL124 n (0, ex47.places, ex47.rests) _ _ _ hl124 Z (lv_sub hl [1, 0] rfl)
    have hL47 : ∀ (k47 : Nat) (z47 : Int × Int × TxtS) (H : Heap) (locs : List Loc) (ls : Array Slot), lp (p_X5_takeVersion_b47 n sH) k47 z47 = some ex47 → xSt g A s (wT g aT z47.2.2 ++ wH g aH sH) H locs → lv_has ls 6 [(0, .ref (aT 0)), (1, .ref (aH 0)), (3, .int (iI z47.1)), (4, .int (iI z47.2.1))] → W p l e rmX5_takeVersion s m args below meth c H locs 0 0 QQ (F0 m 47 ls []) := by
      intro k47
      induction k47 with
      | zero => intro z47 H locs ls h; exact (lp_0 h).elim
      | succ k47 ih47 =>
        intro z47 H locs ls h Z hl
        obtain ⟨x47, hb47, hx47⟩ := lp_s h
        clear h
        unfold p_X5_takeVersion_b47 at hb47
        have hJ109 : ∀ (sT_109 : TxtS) (v3_109 : Int) (v4_109 : Int) (H : Heap) (locs : List Loc) (ls : Array Slot), p_X5_takeVersion_j109 n sH sT_109 v3_109 v4_109 = some x47 → xSt g A s (wT g aT sT_109 ++ wH g aH sH) H locs → lv_has ls 6 [(0, .ref (aT 0)), (1, .ref (aH 0)), (3, .int (iI v3_109)), (4, .int (iI v4_109))] → W p l e rmX5_takeVersion s m args below meth c H locs 0 0 QQ (F0 m 109 ls []) := by
          intro sT_109 v3_109 v4_109 H locs ls hj109 Z hl
          unfold p_X5_takeVersion_j109 at hj109
          refine lv_aload_n C.1 C.2.1 dX5_takeVersion_109 rfl (lv_at hl 1 rfl) ?_
          refine lv_iload_n C.1 C.2.1 dX5_takeVersion_110 rfl (lv_at hl 2 rfl) ?_
          obtain ⟨r50, hr50, h51⟩ := bd_some hj109
          clear hj109
          refine x_callV_i_J (As := [.int (iI v3_109)]) (rest := []) (q0 := 0) (ws2 := wT g aT sT_109 ++ wH g aH sH) C Z fr_TH_1 (k_X2_parentOf l g n aH sH v3_109 r50 hr50) gX5_takeVersion_X2_parentOf yk_X2_parentOf ⟨Nat.le_of_ble_eq_true rfl, Nat.le_of_ble_eq_true rfl⟩ rfl rfl ⟨Nat.zero_le _, Nat.zero_le _⟩ hl.1 rfl (Nat.le_of_ble_eq_true rfl) rfl dX5_takeVersion_111 (fun H locs Z => ?_)
          refine lv_istore_n (lv' := [(3, .int (iI r50)), (0, .ref (aT 0)), (1, .ref (aH 0)), (4, .int (iI v4_109))]) C.1 C.2.1 dX5_takeVersion_114 rfl hl (by decide) rfl (fun ls hl => ?_)
          refine x_iinc (lv' := [(4, .int (iI (v4_109 + 1))), (3, .int (iI r50)), (0, .ref (aT 0)), (1, .ref (aH 0))]) C dX5_takeVersion_115 hl (k := 3) rfl (by decide) rfl (fun ls hl => ?_)
          refine lv_goto (tgt := 47) C.1 C.2.1 dX5_takeVersion_118 (by decide) ?_
          cases h51
          exact ih47 (r50, v4_109 + 1, sT_109) _ _ _ (lp_L2 hx47) Z (lv_sub hl [2, 3, 1, 0] rfl)
        refine lv_iload C.1 C.2.1 dX5_takeVersion_47 (lv_at hl 3 rfl) ?_
        refine x_sipush C dX5_takeVersion_49 (by decide) ?_
        have q52 := (ck_some hb47).1
        have h53 := (ck_some hb47).2
        clear hb47
        refine x_icmp_ge (tgt := 121) C dX5_takeVersion_52 (by decide) q52 (by decide) (fun c54 => ?_) (fun c54 => ?_)
        · have h55 := if_n h53 c54
          clear h53
          cases h55
          have h57 := lp_R hx47
          subst h57
          exact hK47 _ _ _ Z (lv_sub hl [0] rfl)
        · have h56 := if_p h53 c54
          clear h53
          refine lv_iload_n C.1 C.2.1 dX5_takeVersion_55 rfl (lv_at hl 2 rfl) ?_
          have q58 := (ck_some h56).1
          have h59 := (ck_some h56).2
          clear h56
          refine x_if_le (tgt := 121) C dX5_takeVersion_56 (by decide) q58 (fun c60 => ?_) (fun c60 => ?_)
          · have h61 := if_n h59 c60
            clear h59
            cases h61
            have h63 := lp_R hx47
            subst h63
            exact hK47 _ _ _ Z (lv_sub hl [0] rfl)
          · have h62 := if_p h59 c60
            clear h59
            refine lv_aload_n C.1 C.2.1 dX5_takeVersion_59 rfl (lv_at hl 1 rfl) ?_
            refine lv_iload_n C.1 C.2.1 dX5_takeVersion_60 rfl (lv_at hl 2 rfl) ?_
            obtain ⟨r64, hr64, h65⟩ := bd_some h62
            clear h62
            refine x_callV_i_J (As := [.int (iI z47.1)]) (rest := []) (q0 := 0) (ws2 := wT g aT z47.2.2 ++ wH g aH sH) C Z fr_TH_1 (k_X2_wordsIn l g n aH sH z47.1 r64 hr64) gX5_takeVersion_X2_wordsIn yk_X2_wordsIn ⟨Nat.le_of_ble_eq_true rfl, Nat.le_of_ble_eq_true rfl⟩ rfl rfl ⟨Nat.zero_le _, Nat.zero_le _⟩ hl.1 rfl (Nat.le_of_ble_eq_true rfl) rfl dX5_takeVersion_61 (fun H locs Z => ?_)
            refine x_iconst C dX5_takeVersion_64 ?_
            refine x_isub C dX5_takeVersion_65 ?_
            refine lv_istore (lv' := [(5, .int (iI (r64 - 1))), (0, .ref (aT 0)), (1, .ref (aH 0)), (3, .int (iI z47.1)), (4, .int (iI z47.2.1))]) C.1 C.2.1 dX5_takeVersion_66 hl (by decide) rfl (fun ls hl => ?_)
            refine lv_aload_n C.1 C.2.1 dX5_takeVersion_68 rfl (lv_at hl 2 rfl) ?_
            refine lv_iload_n C.1 C.2.1 dX5_takeVersion_69 rfl (lv_at hl 3 rfl) ?_
            obtain ⟨r66, hr66, h67⟩ := bd_some h65
            clear h65
            refine x_callV_i_J (As := [.int (iI z47.1)]) (rest := []) (q0 := 0) (ws2 := wT g aT z47.2.2 ++ wH g aH sH) C Z fr_TH_1 (k_X2_stepOf l g n aH sH z47.1 r66 hr66) gX5_takeVersion_X2_stepOf yk_X2_stepOf ⟨Nat.le_of_ble_eq_true rfl, Nat.le_of_ble_eq_true rfl⟩ rfl rfl ⟨Nat.zero_le _, Nat.zero_le _⟩ hl.1 rfl (Nat.le_of_ble_eq_true rfl) rfl dX5_takeVersion_70 (fun H locs Z => ?_)
            refine x_iconst C dX5_takeVersion_73 ?_
            have q68 := (ck_some h67).1
            have h69 := (ck_some h67).2
            clear h67
            refine x_icmp_ne (tgt := 91) C dX5_takeVersion_74 (by decide) q68 (by decide) (fun c70 => ?_) (fun c70 => ?_)
            · have h71 := if_n h69 c70
              clear h69
              refine lv_aload_n C.1 C.2.1 dX5_takeVersion_91 rfl (lv_at hl 1 rfl) ?_
              refine lv_aload_n C.1 C.2.1 dX5_takeVersion_92 rfl (lv_at hl 2 rfl) ?_
              refine lv_iload_n C.1 C.2.1 dX5_takeVersion_93 rfl (lv_at hl 3 rfl) ?_
              obtain ⟨r73, hr73, h74⟩ := bd_some h71
              clear h71
              refine x_callV_i_J (As := [.int (iI z47.1)]) (rest := [.ref (aT 0)]) (q0 := 0) (ws2 := wT g aT z47.2.2 ++ wH g aH sH) C Z fr_TH_1 (k_X2_lettersIn l g n aH sH z47.1 r73 hr73) gX5_takeVersion_X2_lettersIn yk_X2_lettersIn ⟨Nat.le_of_ble_eq_true rfl, Nat.le_of_ble_eq_true rfl⟩ rfl rfl ⟨Nat.zero_le _, Nat.zero_le _⟩ hl.1 rfl (Nat.le_of_ble_eq_true rfl) rfl dX5_takeVersion_94 (fun H locs Z => ?_)
              refine x_iconst C dX5_takeVersion_97 ?_
              refine x_isub C dX5_takeVersion_98 ?_
              refine lv_aload_n C.1 C.2.1 dX5_takeVersion_99 rfl (lv_at hl 2 rfl) ?_
              refine lv_iload_n C.1 C.2.1 dX5_takeVersion_100 rfl (lv_at hl 3 rfl) ?_
              obtain ⟨r75, hr75, h76⟩ := bd_some h74
              clear h74
              refine x_callV_i_J (As := [.int (iI z47.1)]) (rest := [.int (iI (r73 - 1)), .ref (aT 0)]) (q0 := 0) (ws2 := wT g aT z47.2.2 ++ wH g aH sH) C Z fr_TH_1 (k_X2_stepOf l g n aH sH z47.1 r75 hr75) gX5_takeVersion_X2_stepOf yk_X2_stepOf ⟨Nat.le_of_ble_eq_true rfl, Nat.le_of_ble_eq_true rfl⟩ rfl rfl ⟨Nat.zero_le _, Nat.zero_le _⟩ hl.1 rfl (Nat.le_of_ble_eq_true rfl) rfl dX5_takeVersion_101 (fun H locs Z => ?_)
              refine lv_iload C.1 C.2.1 dX5_takeVersion_104 (lv_at hl 0 rfl) ?_
              obtain ⟨r77, hr77, h78⟩ := bd_some h76
              clear h76
              refine x_callV_v_J (As := [.int (iI (r73 - 1)), .int (iI r75), .int (iI (r64 - 1))]) (rest := []) (q0 := 0) (ws2 := wT g aT r77 ++ wH g aH sH) C Z fr_TH_0 (k_X5_putLetter l g n aT z47.2.2 (r73 - 1) r75 (r64 - 1) r77 hr77) gX5_takeVersion_X5_putLetter yk_X5_putLetter ⟨Nat.le_of_ble_eq_true rfl, Nat.le_of_ble_eq_true rfl⟩ rfl rfl ⟨Nat.zero_le _, Nat.zero_le _⟩ hl.1 rfl (Nat.le_of_ble_eq_true rfl) rfl dX5_takeVersion_106 (fun H locs Z => ?_)
              exact hJ109 r77 z47.1 z47.2.1 _ _ _ h78 Z (lv_sub hl [1, 2, 3, 4] rfl)
            · have h72 := if_p h69 c70
              clear h69
              refine lv_aload_n C.1 C.2.1 dX5_takeVersion_77 rfl (lv_at hl 1 rfl) ?_
              refine lv_iload C.1 C.2.1 dX5_takeVersion_78 (lv_at hl 0 rfl) ?_
              refine lv_aload_n C.1 C.2.1 dX5_takeVersion_80 rfl (lv_at hl 2 rfl) ?_
              refine lv_iload_n C.1 C.2.1 dX5_takeVersion_81 rfl (lv_at hl 3 rfl) ?_
              obtain ⟨r79, hr79, h80⟩ := bd_some h72
              clear h72
              refine x_callV_i_J (As := [.int (iI z47.1)]) (rest := [.int (iI (r64 - 1)), .ref (aT 0)]) (q0 := 0) (ws2 := wT g aT z47.2.2 ++ wH g aH sH) C Z fr_TH_1 (k_X2_lettersIn l g n aH sH z47.1 r79 hr79) gX5_takeVersion_X2_lettersIn yk_X2_lettersIn ⟨Nat.le_of_ble_eq_true rfl, Nat.le_of_ble_eq_true rfl⟩ rfl rfl ⟨Nat.zero_le _, Nat.zero_le _⟩ hl.1 rfl (Nat.le_of_ble_eq_true rfl) rfl dX5_takeVersion_82 (fun H locs Z => ?_)
              obtain ⟨r81, hr81, h82⟩ := bd_some h80
              clear h80
              refine x_callV_v_J (As := [.int (iI (r64 - 1)), .int (iI r79)]) (rest := []) (q0 := 0) (ws2 := wT g aT r81 ++ wH g aH sH) C Z fr_TH_0 (k_X5_putStart l g n aT z47.2.2 (r64 - 1) r79 r81 hr81) gX5_takeVersion_X5_putStart yk_X5_putStart ⟨Nat.le_of_ble_eq_true rfl, Nat.le_of_ble_eq_true rfl⟩ rfl rfl ⟨Nat.zero_le _, Nat.zero_le _⟩ hl.1 rfl (Nat.le_of_ble_eq_true rfl) rfl dX5_takeVersion_85 (fun H locs Z => ?_)
              refine lv_goto (tgt := 109) C.1 C.2.1 dX5_takeVersion_88 (by decide) ?_
              exact hJ109 r81 z47.1 z47.2.1 _ _ _ h82 Z (lv_sub hl [1, 2, 3, 4] rfl)
    exact hL47 n (v2, 0, (sT.letters, sT.words, sT.places, sT.rests, sT.starts, min r8 6, min r12 60, v2)) _ _ _ hl47 Z (lv_sub hl [2, 3, 1, 0] rfl)
  · have h7 := if_p h4 c5
    clear h4
    have h120 := Option.some.inj h7
    subst h120
    exact hRet _ _ _ _ Z dX5_takeVersion_8
