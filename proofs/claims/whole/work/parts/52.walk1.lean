abbrev rmX5_length : Room := { frames := 0, cells := 0, slots := 0, locals := 0 }
theorem yk_X5_length : xY yX5_length RX5 cX5_length 1 (some .int) wsX5_length rmX5_length 0 := ⟨⟨_, rfl⟩, by decide +kernel, rfl, rfl⟩
theorem i_X5_X5_length : ∀ w ∈ u_ws RX5 TX5 8, w ∈ wsX5_length := fun _ h => List.mem_cons_of_mem _ (List.mem_append_right _ h)
set_option maxHeartbeats 4000000 in
set_option maxRecDepth 100000 in
theorem k_X5_length (l : Launch) (g : xG) (n : Nat) (aT : Nat → Nat) (sT : TxtS) (r : Int) (hf : p_X5_length sT = some r) : xMi l yX5_length wsX5_length rmX5_length g [.ref (aT 0)] (wT g aT sT) (wT g aT sT) r := by
  refine x_ofW_i (own := RX5) (by decide) rfl rfl (Nat.le_of_ble_eq_true rfl) ?_
  intro p e s m args below meth c ls A QQ C hRet Z hl
  have hl : lv_has ls 1 [(0, .ref (aT 0))] := hl
  unfold p_X5_length at hf
  refine lv_aload_n C.1 C.2.1 dX5_length_0 rfl (lv_at hl 0 rfl) ?_
  refine x_get C Z 0 rfl rfl i_X5_X5_length (k := 6) (by decide) (List.mem_of_getElem? (i := 1) rfl) rfl dX5_length_1 ?_
  have h1 := Option.some.inj hf
  subst h1
  exact hRet _ _ _ _ Z dX5_length_4
abbrev rmX5_letterAt : Room := { frames := 1, cells := 0, slots := 0, locals := 21 }
theorem yk_X5_letterAt : xY yX5_letterAt RX5 cX5_letterAt 2 (some .int) wsX5_letterAt rmX5_letterAt 1 := ⟨⟨_, rfl⟩, by decide +kernel, rfl, rfl⟩
theorem i_X5_X5_letterAt : ∀ w ∈ u_ws RX5 TX5 8, w ∈ wsX5_letterAt := fun _ h => List.mem_cons_of_mem _ (List.mem_append_right _ h)
set_option maxHeartbeats 4000000 in
set_option maxRecDepth 100000 in
theorem k_X5_letterAt (l : Launch) (g : xG) (n : Nat) (aT : Nat → Nat) (sT : TxtS) (v1 : Int) (r : Int) (hf : p_X5_letterAt sT v1 = some r) : xMi l yX5_letterAt wsX5_letterAt rmX5_letterAt g [.ref (aT 0), .int (iI v1)] (wT g aT sT) (wT g aT sT) r := by
  refine x_ofW_i (own := RX5) (by decide) rfl rfl (Nat.le_of_ble_eq_true rfl) ?_
  intro p e s m args below meth c ls A QQ C hRet Z hl
  have hl : lv_has ls 2 [(0, .ref (aT 0)), (1, .int (iI v1))] := hl
  unfold p_X5_letterAt at hf
  refine lv_aload_n C.1 C.2.1 dX5_letterAt_0 rfl (lv_at hl 0 rfl) ?_
  refine lv_iload_n C.1 C.2.1 dX5_letterAt_1 rfl (lv_at hl 1 rfl) ?_
  obtain ⟨r1, hr1, h2⟩ := bd_some hf
  clear hf
  refine x_callV_i_id (As := [.int (iI v1)]) (rest := []) (q0 := 0) C Z (k_X5_has l g n aT sT v1 r1 hr1) gX5_letterAt_X5_has yk_X5_has ⟨Nat.le_of_ble_eq_true rfl, Nat.le_of_ble_eq_true rfl⟩ rfl rfl ⟨Nat.zero_le _, Nat.zero_le _⟩ hl.1 rfl (Nat.le_of_ble_eq_true rfl) rfl dX5_letterAt_2 (fun H locs Z => ?_)
  have q3 := (ck_some h2).1
  have h4 := (ck_some h2).2
  clear h2
  refine x_if_eq (tgt := 17) C dX5_letterAt_5 (by decide) q3 (fun c5 => ?_) (fun c5 => ?_)
  · have h6 := if_p h4 c5
    clear h4
    refine x_iconst C dX5_letterAt_17 ?_
    have h8 := Option.some.inj h6
    subst h8
    exact hRet _ _ _ _ Z dX5_letterAt_18
  · have h7 := if_n h4 c5
    clear h4
    refine lv_aload_n C.1 C.2.1 dX5_letterAt_8 rfl (lv_at hl 0 rfl) ?_
    refine x_get C Z 0 rfl rfl i_X5_X5_letterAt (k := 0) (by decide) (List.mem_of_getElem? (i := 1) rfl) rfl dX5_letterAt_9 ?_
    refine lv_iload_n C.1 C.2.1 dX5_letterAt_12 rfl (lv_at hl 1 rfl) ?_
    have q9 := (ix_some h7).1
    have h10 := (ix_some h7).2
    clear h7
    refine x_iald C Z 1 rfl (by decide) q9 dX5_letterAt_13 ?_
    refine lv_goto (tgt := 18) C.1 C.2.1 dX5_letterAt_14 (by decide) ?_
    have h11 := Option.some.inj h10
    subst h11
    exact hRet _ _ _ _ Z dX5_letterAt_18
abbrev rmX5_placeAt : Room := { frames := 1, cells := 0, slots := 0, locals := 21 }
theorem yk_X5_placeAt : xY yX5_placeAt RX5 cX5_placeAt 2 (some .int) wsX5_placeAt rmX5_placeAt 1 := ⟨⟨_, rfl⟩, by decide +kernel, rfl, rfl⟩
theorem i_X5_X5_placeAt : ∀ w ∈ u_ws RX5 TX5 8, w ∈ wsX5_placeAt := fun _ h => List.mem_cons_of_mem _ (List.mem_append_right _ h)
set_option maxHeartbeats 4000000 in
set_option maxRecDepth 100000 in
theorem k_X5_placeAt (l : Launch) (g : xG) (n : Nat) (aT : Nat → Nat) (sT : TxtS) (v1 : Int) (r : Int) (hf : p_X5_placeAt sT v1 = some r) : xMi l yX5_placeAt wsX5_placeAt rmX5_placeAt g [.ref (aT 0), .int (iI v1)] (wT g aT sT) (wT g aT sT) r := by
  refine x_ofW_i (own := RX5) (by decide) rfl rfl (Nat.le_of_ble_eq_true rfl) ?_
  intro p e s m args below meth c ls A QQ C hRet Z hl
  have hl : lv_has ls 2 [(0, .ref (aT 0)), (1, .int (iI v1))] := hl
  unfold p_X5_placeAt at hf
  refine lv_aload_n C.1 C.2.1 dX5_placeAt_0 rfl (lv_at hl 0 rfl) ?_
  refine lv_iload_n C.1 C.2.1 dX5_placeAt_1 rfl (lv_at hl 1 rfl) ?_
  obtain ⟨r1, hr1, h2⟩ := bd_some hf
  clear hf
  refine x_callV_i_id (As := [.int (iI v1)]) (rest := []) (q0 := 0) C Z (k_X5_has l g n aT sT v1 r1 hr1) gX5_placeAt_X5_has yk_X5_has ⟨Nat.le_of_ble_eq_true rfl, Nat.le_of_ble_eq_true rfl⟩ rfl rfl ⟨Nat.zero_le _, Nat.zero_le _⟩ hl.1 rfl (Nat.le_of_ble_eq_true rfl) rfl dX5_placeAt_2 (fun H locs Z => ?_)
  have q3 := (ck_some h2).1
  have h4 := (ck_some h2).2
  clear h2
  refine x_if_eq (tgt := 17) C dX5_placeAt_5 (by decide) q3 (fun c5 => ?_) (fun c5 => ?_)
  · have h6 := if_p h4 c5
    clear h4
    refine x_iconst C dX5_placeAt_17 ?_
    have h8 := Option.some.inj h6
    subst h8
    exact hRet _ _ _ _ Z dX5_placeAt_18
  · have h7 := if_n h4 c5
    clear h4
    refine lv_aload_n C.1 C.2.1 dX5_placeAt_8 rfl (lv_at hl 0 rfl) ?_
    refine x_get C Z 0 rfl rfl i_X5_X5_placeAt (k := 2) (by decide) (List.mem_of_getElem? (i := 1) rfl) rfl dX5_placeAt_9 ?_
    refine lv_iload_n C.1 C.2.1 dX5_placeAt_12 rfl (lv_at hl 1 rfl) ?_
    have q9 := (ix_some h7).1
    have h10 := (ix_some h7).2
    clear h7
    refine x_iald C Z 3 rfl (by decide) q9 dX5_placeAt_13 ?_
    refine lv_goto (tgt := 18) C.1 C.2.1 dX5_placeAt_14 (by decide) ?_
    have h11 := Option.some.inj h10
    subst h11
    exact hRet _ _ _ _ Z dX5_placeAt_18
abbrev rmX4_advancea : Room := { frames := 2, cells := 0, slots := 0, locals := 42 }
theorem yk_X4_advancea : xY yX4_advance RX4 cX4_advance 10 (some .int) wsX4_advance rmX4_advancea 4 := ⟨⟨_, rfl⟩, by decide +kernel, rfl, rfl⟩
theorem i_X4_X4_advance : ∀ w ∈ u_ws RX4 TX4 1, w ∈ wsX4_advance := fun _ h => List.mem_cons_of_mem _ (List.mem_append_right _ h)
theorem i_X5_X4_advance : ∀ w ∈ u_ws RX5 TX5 8, w ∈ wsX4_advance := fun _ h => List.mem_cons_of_mem _ (List.mem_append_left _ (List.mem_append_right _ h))
set_option maxHeartbeats 4000000 in
set_option maxRecDepth 100000 in
theorem k_X4_advancea (l : Launch) (g : xG) (n : Nat) (aS : Nat → Nat) (aT : Nat → Nat) (sS : SwpS) (sT : TxtS) (v2 : Int) (v4 : Int) (r : Int × SwpS) (hf : p_X4_advancea n sS sT v2 v4 = some r) : xMi l yX4_advance wsX4_advance rmX4_advancea g [.ref (aS 0), .ref (aT 0), .int (iI v2), .ref (aT 0), .int (iI v4)] (wS g aS sS ++ wT g aT sT) (wS g aS r.2 ++ wT g aT sT) r.1 := by
  refine x_ofW_i (own := RX4) (by decide) rfl rfl (Nat.le_of_ble_eq_true rfl) ?_
  intro p e s m args below meth c ls A QQ C hRet Z hl
  have hl : lv_has ls 10 [(0, .ref (aS 0)), (1, .ref (aT 0)), (2, .int (iI v2)), (3, .ref (aT 0)), (4, .int (iI v4))] := hl
  unfold p_X4_advancea at hf
  have hJ20 : ∀ (sS_20 : SwpS) (v4_20 : Int) (v5_20 : Int) (t0_20 : Int) (H : Heap) (locs : List Loc) (ls : Array Slot), p_X4_advancea_j20 n sT sS_20 v4_20 v5_20 t0_20 = some r → xSt g A s (wS g aS sS_20 ++ wT g aT sT) H locs → lv_has ls 10 [(0, .ref (aS 0)), (3, .ref (aT 0)), (4, .int (iI v4_20)), (5, .int (iI v5_20))] → W p l e rmX4_advancea s m args below meth c H locs 0 0 QQ (F0 m 20 ls [.int (iI t0_20)]) := by
    intro sS_20 v4_20 v5_20 t0_20 H locs ls hj20 Z hl
    unfold p_X4_advancea_j20 at hj20
    refine lv_istore (lv' := [(6, .int (iI t0_20)), (0, .ref (aS 0)), (3, .ref (aT 0)), (4, .int (iI v4_20)), (5, .int (iI v5_20))]) C.1 C.2.1 dX4_advance_20 hl (by decide) rfl (fun ls hl => ?_)
    refine x_iconst C dX4_advance_22 ?_
    refine lv_istore (lv' := [(7, .int (iI 0)), (6, .int (iI t0_20)), (0, .ref (aS 0)), (3, .ref (aT 0)), (4, .int (iI v4_20)), (5, .int (iI v5_20))]) C.1 C.2.1 dX4_advance_23 hl (by decide) rfl (fun ls hl => ?_)
    refine lv_iload C.1 C.2.1 dX4_advance_25 (lv_at hl 4 rfl) ?_
    refine lv_aload_n C.1 C.2.1 dX4_advance_27 rfl (lv_at hl 3 rfl) ?_
    refine x_getN C Z 2 rfl rfl i_X5_X4_advance (k := 6) (by decide) C.2.2.2.2.2.2.1.2.2.1 rfl dX4_advance_28 ?_
    have q1 := (ck_some hj20).1
    have h2 := (ck_some hj20).2
    clear hj20
    have q3 := (ck_some h2).1
    have h4 := (ck_some h2).2
    clear h2
    refine x_mmin (rest := []) C hl.1 (List.mem_of_getElem? (i := 1) rfl) (List.mem_of_getElem? (i := 2) rfl) (List.mem_of_getElem? (i := 3) rfl) (List.mem_of_getElem? (i := 4) rfl) (by decide) (by decide) (Nat.le_of_ble_eq_true rfl) ⟨Nat.zero_le _, Nat.zero_le _⟩ q1 q3 dX4_advance_31 ?_
    refine x_bipush C dX4_advance_34 (by decide) ?_
    have q5 := (ck_some h4).1
    have h6 := (ck_some h4).2
    clear h4
    refine x_mmin (rest := []) C hl.1 (List.mem_of_getElem? (i := 1) rfl) (List.mem_of_getElem? (i := 2) rfl) (List.mem_of_getElem? (i := 3) rfl) (List.mem_of_getElem? (i := 4) rfl) (by decide) (by decide) (Nat.le_of_ble_eq_true rfl) ⟨Nat.zero_le _, Nat.zero_le _⟩ q5 (by decide) dX4_advance_36 ?_
    refine x_iconst C dX4_advance_39 ?_
    refine x_isub C dX4_advance_40 ?_
    refine lv_istore (lv' := [(8, .int (iI ((min (min v4_20 sT.length) 60) - 1))), (7, .int (iI 0)), (6, .int (iI t0_20)), (0, .ref (aS 0)), (3, .ref (aT 0)), (4, .int (iI v4_20)), (5, .int (iI v5_20))]) C.1 C.2.1 dX4_advance_41 hl (by decide) rfl (fun ls hl => ?_)
    obtain ⟨ex43, hl43, h92⟩ := bd_some h6
    clear h6
    have hK43 : ∀ (H : Heap) (locs : List Loc) (ls : Array Slot), xSt g A s (wS g aS ex43.2 ++ wT g aT sT) H locs → lv_has ls 10 [(7, .int (iI ex43.1))] → W p l e rmX4_advancea s m args below meth c H locs 0 0 QQ (F0 m 126 ls []) := by
      intro H locs ls Z hl
      have h93 := h92
      clear h92
      refine lv_iload C.1 C.2.1 dX4_advance_126 (lv_at hl 0 rfl) ?_
      have h94 := Option.some.inj h93
      subst h94
      exact hRet _ _ _ _ Z dX4_advance_128
    have hL43 : ∀ (k43 : Nat) (z43 : Int × Int × Row) (H : Heap) (locs : List Loc) (ls : Array Slot), lp (p_X4_advancea_b43 n sT v5_20 t0_20) k43 z43 = some ex43 → xSt g A s (wS g aS z43.2.2 ++ wT g aT sT) H locs → lv_has ls 10 [(0, .ref (aS 0)), (3, .ref (aT 0)), (5, .int (iI v5_20)), (6, .int (iI t0_20)), (7, .int (iI z43.1)), (8, .int (iI z43.2.1))] → W p l e rmX4_advancea s m args below meth c H locs 0 0 QQ (F0 m 43 ls []) := by
      intro k43
      induction k43 with
      | zero => intro z43 H locs ls h; exact (lp_0 h).elim
      | succ k43 ih43 =>
        intro z43 H locs ls h Z hl
        obtain ⟨x43, hb43, hx43⟩ := lp_s h
        clear h
        unfold p_X4_advancea_b43 at hb43
        have hJ100 : ∀ (sS_lengths_100 : Row) (v7_100 : Int) (v8_100 : Int) (v9_100 : Int) (H : Heap) (locs : List Loc) (ls : Array Slot), p_X4_advancea_j100 n sS_lengths_100 v7_100 v8_100 v9_100 = some x43 → xSt g A s (wS g aS sS_lengths_100 ++ wT g aT sT) H locs → lv_has ls 10 [(0, .ref (aS 0)), (3, .ref (aT 0)), (5, .int (iI v5_20)), (6, .int (iI t0_20)), (7, .int (iI v7_100)), (8, .int (iI v8_100)), (9, .int (iI v9_100))] → W p l e rmX4_advancea s m args below meth c H locs 0 0 QQ (F0 m 100 ls []) := by
          intro sS_lengths_100 v7_100 v8_100 v9_100 H locs ls hj100 Z hl
          unfold p_X4_advancea_j100 at hj100
          refine lv_aload_n C.1 C.2.1 dX4_advance_100 rfl (lv_at hl 0 rfl) ?_
          refine x_get C Z 0 rfl rfl i_X4_X4_advance (k := 0) (by decide) (List.mem_of_getElem? (i := 5) rfl) rfl dX4_advance_101 ?_
          refine lv_iload C.1 C.2.1 dX4_advance_104 (lv_at hl 5 rfl) ?_
          refine lv_iload C.1 C.2.1 dX4_advance_106 (lv_at hl 6 rfl) ?_
          have q51 := (ix_some hj100).1
          have h52 := (ix_some hj100).2
          clear hj100
          refine x_iast (ws2 := wS g aS (up sS_lengths_100 v8_100 v9_100) ++ wT g aT sT) C Z 1 rfl (by decide) q51 dX4_advance_108 rfl (fun H locs Z => ?_)
          refine lv_iload C.1 C.2.1 dX4_advance_109 (lv_at hl 6 rfl) ?_
          refine lv_iload C.1 C.2.1 dX4_advance_111 (lv_at hl 4 rfl) ?_
          have q53 := (ck_some h52).1
          have h54 := (ck_some h52).2
          clear h52
          have q55 := (ck_some h54).1
          have h56 := (ck_some h54).2
          clear h54
          refine x_icmp_le (tgt := 120) C dX4_advance_113 (by decide) q53 q55 (fun c57 => ?_) (fun c57 => ?_)
          · have h58 := if_n h56 c57
            clear h56
            refine x_iinc (lv' := [(8, .int (iI (v8_100 + (-1)))), (0, .ref (aS 0)), (3, .ref (aT 0)), (5, .int (iI v5_20)), (6, .int (iI t0_20)), (7, .int (iI v7_100)), (9, .int (iI v9_100))]) C dX4_advance_120 hl (k := 5) rfl (by decide) rfl (fun ls hl => ?_)
            refine lv_goto (tgt := 43) C.1 C.2.1 dX4_advance_123 (by decide) ?_
            cases h58
            exact ih43 (v7_100, v8_100 + (-1), up sS_lengths_100 v8_100 v9_100) _ _ _ (lp_L2 hx43) Z (lv_sub hl [1, 2, 3, 4, 5, 0] rfl)
          · have h59 := if_p h56 c57
            clear h56
            refine lv_iload C.1 C.2.1 dX4_advance_116 (lv_at hl 6 rfl) ?_
            refine lv_istore (lv' := [(7, .int (iI v9_100)), (0, .ref (aS 0)), (3, .ref (aT 0)), (5, .int (iI v5_20)), (6, .int (iI t0_20)), (8, .int (iI v8_100)), (9, .int (iI v9_100))]) C.1 C.2.1 dX4_advance_118 hl (by decide) rfl (fun ls hl => ?_)
            refine x_iinc (lv' := [(8, .int (iI (v8_100 + (-1)))), (7, .int (iI v9_100)), (0, .ref (aS 0)), (3, .ref (aT 0)), (5, .int (iI v5_20)), (6, .int (iI t0_20)), (9, .int (iI v9_100))]) C dX4_advance_120 hl (k := 5) rfl (by decide) rfl (fun ls hl => ?_)
            refine lv_goto (tgt := 43) C.1 C.2.1 dX4_advance_123 (by decide) ?_
            cases h59
            exact ih43 (v9_100, v8_100 + (-1), up sS_lengths_100 v8_100 v9_100) _ _ _ (lp_L2 hx43) Z (lv_sub hl [2, 3, 4, 5, 1, 0] rfl)
        have hJ98 : ∀ (sS_lengths_98 : Row) (v7_98 : Int) (v8_98 : Int) (t0_98 : Int) (H : Heap) (locs : List Loc) (ls : Array Slot), p_X4_advancea_j98 n sS_lengths_98 v7_98 v8_98 t0_98 = some x43 → xSt g A s (wS g aS sS_lengths_98 ++ wT g aT sT) H locs → lv_has ls 10 [(0, .ref (aS 0)), (3, .ref (aT 0)), (5, .int (iI v5_20)), (6, .int (iI t0_20)), (7, .int (iI v7_98)), (8, .int (iI v8_98))] → W p l e rmX4_advancea s m args below meth c H locs 0 0 QQ (F0 m 98 ls [.int (iI t0_98)]) := by
          intro sS_lengths_98 v7_98 v8_98 t0_98 H locs ls hj98 Z hl
          unfold p_X4_advancea_j98 at hj98
          refine lv_istore (lv' := [(9, .int (iI t0_98)), (0, .ref (aS 0)), (3, .ref (aT 0)), (5, .int (iI v5_20)), (6, .int (iI t0_20)), (7, .int (iI v7_98)), (8, .int (iI v8_98))]) C.1 C.2.1 dX4_advance_98 hl (by decide) rfl (fun ls hl => ?_)
          exact hJ100 sS_lengths_98 v7_98 v8_98 t0_98 _ _ _ hj98 Z (lv_sub hl [1, 2, 3, 4, 5, 6, 0] rfl)
        have hJ97 : ∀ (sS_lengths_97 : Row) (v7_97 : Int) (v8_97 : Int) (H : Heap) (locs : List Loc) (ls : Array Slot), p_X4_advancea_j97 n sS_lengths_97 v7_97 v8_97 = some x43 → xSt g A s (wS g aS sS_lengths_97 ++ wT g aT sT) H locs → lv_has ls 10 [(0, .ref (aS 0)), (3, .ref (aT 0)), (5, .int (iI v5_20)), (6, .int (iI t0_20)), (7, .int (iI v7_97)), (8, .int (iI v8_97))] → W p l e rmX4_advancea s m args below meth c H locs 0 0 QQ (F0 m 97 ls []) := by
          intro sS_lengths_97 v7_97 v8_97 H locs ls hj97 Z hl
          unfold p_X4_advancea_j97 at hj97
          refine x_iconst C dX4_advance_97 ?_
          exact hJ98 sS_lengths_97 v7_97 v8_97 1 _ _ _ hj97 Z (lv_sub hl [0, 1, 2, 3, 4, 5] rfl)
        refine lv_iload C.1 C.2.1 dX4_advance_43 (lv_at hl 5 rfl) ?_
        have q60 := (ck_some hb43).1
        have h61 := (ck_some hb43).2
        clear hb43
        refine x_if_lt (tgt := 126) C dX4_advance_45 (by decide) q60 (fun c62 => ?_) (fun c62 => ?_)
        · have h63 := if_p h61 c62
          clear h61
          cases h63
          have h65 := lp_R hx43
          subst h65
          exact hK43 _ _ _ Z (lv_sub hl [4] rfl)
        · have h64 := if_n h61 c62
          clear h61
          refine x_iconst C dX4_advance_48 ?_
          refine lv_istore (lv' := [(9, .int (iI 0)), (0, .ref (aS 0)), (3, .ref (aT 0)), (5, .int (iI v5_20)), (6, .int (iI t0_20)), (7, .int (iI z43.1)), (8, .int (iI z43.2.1))]) C.1 C.2.1 dX4_advance_49 hl (by decide) rfl (fun ls hl => ?_)
          refine lv_aload_n C.1 C.2.1 dX4_advance_51 rfl (lv_at hl 2 rfl) ?_
          refine x_getN C Z 2 rfl rfl i_X5_X4_advance (k := 0) (by decide) C.2.2.2.2.2.2.1.1 rfl dX4_advance_52 ?_
          refine lv_iload C.1 C.2.1 dX4_advance_55 (lv_at hl 6 rfl) ?_
          have q66 := (ix_some h64).1
          have h67 := (ix_some h64).2
          clear h64
          refine x_iald C Z 3 rfl (by decide) q66 dX4_advance_57 ?_
          refine lv_iload C.1 C.2.1 dX4_advance_58 (lv_at hl 3 rfl) ?_
          have q68 := (ck_some h67).1
          have h69 := (ck_some h67).2
          clear h67
          have q70 := (ck_some h69).1
          have h71 := (ck_some h69).2
          clear h69
          refine x_icmp_ne (tgt := 100) C dX4_advance_60 (by decide) q68 q70 (fun c72 => ?_) (fun c72 => ?_)
          · have h73 := if_n h71 c72
            clear h71
            exact hJ100 z43.2.2 z43.1 z43.2.1 0 _ _ _ h73 Z (lv_sub hl [1, 2, 3, 4, 5, 6, 0] rfl)
          · have h74 := if_p h71 c72
            clear h71
            refine lv_iload C.1 C.2.1 dX4_advance_63 (lv_at hl 4 rfl) ?_
            have q75 := (ck_some h74).1
            have h76 := (ck_some h74).2
            clear h74
            refine x_if_eq (tgt := 97) C dX4_advance_65 (by decide) q75 (fun c77 => ?_) (fun c77 => ?_)
            · have h78 := if_p h76 c77
              clear h76
              exact hJ97 z43.2.2 z43.1 z43.2.1 _ _ _ h78 Z (lv_sub hl [1, 2, 3, 4, 5, 6] rfl)
            · have h79 := if_n h76 c77
              clear h76
              refine lv_iload C.1 C.2.1 dX4_advance_68 (lv_at hl 6 rfl) ?_
              refine x_if_le (tgt := 97) C dX4_advance_70 (by decide) q60 (fun c80 => ?_) (fun c80 => ?_)
              · have h81 := if_n h79 c80
                clear h79
                exact hJ97 z43.2.2 z43.1 z43.2.1 _ _ _ h81 Z (lv_sub hl [1, 2, 3, 4, 5, 6] rfl)
              · have h82 := if_p h79 c80
                clear h79
                refine lv_aload_n C.1 C.2.1 dX4_advance_73 rfl (lv_at hl 2 rfl) ?_
                refine x_getN C Z 2 rfl rfl i_X5_X4_advance (k := 2) (by decide) C.2.2.2.2.2.2.1.2.1 rfl dX4_advance_74 ?_
                refine lv_iload C.1 C.2.1 dX4_advance_77 (lv_at hl 6 rfl) ?_
                refine x_iald C Z 5 rfl (by decide) q66 dX4_advance_79 ?_
                have q85 := (ck_some h82).1
                have h86 := (ck_some h82).2
                clear h82
                refine x_if_le (tgt := 97) C dX4_advance_80 (by decide) q85 (fun c87 => ?_) (fun c87 => ?_)
                · have h88 := if_n h86 c87
                  clear h86
                  exact hJ97 z43.2.2 z43.1 z43.2.1 _ _ _ h88 Z (lv_sub hl [1, 2, 3, 4, 5, 6] rfl)
                · have h89 := if_p h86 c87
                  clear h86
                  refine lv_aload_n C.1 C.2.1 dX4_advance_83 rfl (lv_at hl 1 rfl) ?_
                  refine x_get C Z 0 rfl rfl i_X4_X4_advance (k := 0) (by decide) (List.mem_of_getElem? (i := 5) rfl) rfl dX4_advance_84 ?_
                  refine lv_iload C.1 C.2.1 dX4_advance_87 (lv_at hl 6 rfl) ?_
                  refine x_iconst C dX4_advance_89 ?_
                  refine x_isub C dX4_advance_90 ?_
                  have q90 := (ix_some h89).1
                  have h91 := (ix_some h89).2
                  clear h89
                  refine x_iald C Z 1 rfl (by decide) q90 dX4_advance_91 ?_
                  refine x_iconst C dX4_advance_92 ?_
                  refine x_iadd C dX4_advance_93 ?_
                  refine lv_goto (tgt := 98) C.1 C.2.1 dX4_advance_94 (by decide) ?_
                  exact hJ98 z43.2.2 z43.1 z43.2.1 ((z43.2.2 (z43.2.1 - 1)) + 1) _ _ _ h91 Z (lv_sub hl [1, 2, 3, 4, 5, 6] rfl)
    exact hL43 n (0, (min (min v4_20 sT.length) 60) - 1, sS_20) _ _ _ hl43 Z (lv_sub hl [3, 4, 6, 2, 1, 0] rfl)
  refine lv_aload_n C.1 C.2.1 dX4_advance_0 rfl (lv_at hl 1 rfl) ?_
  refine lv_iload_n C.1 C.2.1 dX4_advance_1 rfl (lv_at hl 2 rfl) ?_
  obtain ⟨r95, hr95, h96⟩ := bd_some hf
  clear hf
  refine x_callV_i_J (As := [.int (iI v2)]) (rest := []) (q0 := 0) (ws2 := wS g aS sS ++ wT g aT sT) C Z fr_ST_1 (k_X5_letterAt l g n aT sT v2 r95 hr95) gX4_advance_X5_letterAt yk_X5_letterAt ⟨Nat.le_of_ble_eq_true rfl, Nat.le_of_ble_eq_true rfl⟩ rfl rfl ⟨Nat.zero_le _, Nat.zero_le _⟩ hl.1 rfl (Nat.le_of_ble_eq_true rfl) rfl dX4_advance_2 (fun H locs Z => ?_)
  refine lv_istore (lv' := [(5, .int (iI r95)), (0, .ref (aS 0)), (1, .ref (aT 0)), (2, .int (iI v2)), (3, .ref (aT 0)), (4, .int (iI v4))]) C.1 C.2.1 dX4_advance_5 hl (by decide) rfl (fun ls hl => ?_)
  refine lv_aload_n C.1 C.2.1 dX4_advance_7 rfl (lv_at hl 2 rfl) ?_
  refine lv_iload_n C.1 C.2.1 dX4_advance_8 rfl (lv_at hl 3 rfl) ?_
  obtain ⟨r97, hr97, h98⟩ := bd_some h96
  clear h96
  refine x_callV_i_J (As := [.int (iI v2)]) (rest := []) (q0 := 0) (ws2 := wS g aS sS ++ wT g aT sT) C Z fr_ST_1 (k_X5_placeAt l g n aT sT v2 r97 hr97) gX4_advance_X5_placeAt yk_X5_placeAt ⟨Nat.le_of_ble_eq_true rfl, Nat.le_of_ble_eq_true rfl⟩ rfl rfl ⟨Nat.zero_le _, Nat.zero_le _⟩ hl.1 rfl (Nat.le_of_ble_eq_true rfl) rfl dX4_advance_9 (fun H locs Z => ?_)
  have q99 := (ck_some h98).1
  have h100 := (ck_some h98).2
  clear h98
  refine x_if_le (tgt := 19) C dX4_advance_12 (by decide) q99 (fun c101 => ?_) (fun c101 => ?_)
  · have h102 := if_n h100 c101
    clear h100
    refine x_iconst C dX4_advance_19 ?_
    exact hJ20 sS v4 r95 0 _ _ _ h102 Z (lv_sub hl [1, 4, 5, 0] rfl)
  · have h103 := if_p h100 c101
    clear h100
    refine x_iconst C dX4_advance_15 ?_
    refine lv_goto (tgt := 20) C.1 C.2.1 dX4_advance_16 (by decide) ?_
    exact hJ20 sS v4 r95 1 _ _ _ h103 Z (lv_sub hl [1, 4, 5, 0] rfl)
abbrev rmX4_advancen : Room := { frames := 2, cells := 0, slots := 0, locals := 42 }
theorem yk_X4_advancen : xY yX4_advance RX4 cX4_advance 10 (some .int) wsX4_advance rmX4_advancen 4 := ⟨⟨_, rfl⟩, by decide +kernel, rfl, rfl⟩
set_option maxHeartbeats 4000000 in
set_option maxRecDepth 100000 in
theorem k_X4_advancen (l : Launch) (g : xG) (n : Nat) (aS : Nat → Nat) (aT : Nat → Nat) (aU : Nat → Nat) (sS : SwpS) (sT : TxtS) (sU : TxtS) (v2 : Int) (v4 : Int) (r : Int × SwpS) (hf : p_X4_advancen n sS sT sU v2 v4 = some r) : xMi l yX4_advance wsX4_advance rmX4_advancen g [.ref (aS 0), .ref (aT 0), .int (iI v2), .ref (aU 0), .int (iI v4)] (wS g aS sS ++ (wT g aT sT ++ wT g aU sU)) (wS g aS r.2 ++ (wT g aT sT ++ wT g aU sU)) r.1 := by
  refine x_ofW_i (own := RX4) (by decide) rfl rfl (Nat.le_of_ble_eq_true rfl) ?_
  intro p e s m args below meth c ls A QQ C hRet Z hl
  have hl : lv_has ls 10 [(0, .ref (aS 0)), (1, .ref (aT 0)), (2, .int (iI v2)), (3, .ref (aU 0)), (4, .int (iI v4))] := hl
  unfold p_X4_advancen at hf
  have hJ20 : ∀ (sS_20 : SwpS) (v4_20 : Int) (v5_20 : Int) (t0_20 : Int) (H : Heap) (locs : List Loc) (ls : Array Slot), p_X4_advancen_j20 n sU sS_20 v4_20 v5_20 t0_20 = some r → xSt g A s (wS g aS sS_20 ++ (wT g aT sT ++ wT g aU sU)) H locs → lv_has ls 10 [(0, .ref (aS 0)), (3, .ref (aU 0)), (4, .int (iI v4_20)), (5, .int (iI v5_20))] → W p l e rmX4_advancen s m args below meth c H locs 0 0 QQ (F0 m 20 ls [.int (iI t0_20)]) := by
    intro sS_20 v4_20 v5_20 t0_20 H locs ls hj20 Z hl
    unfold p_X4_advancen_j20 at hj20
    refine lv_istore (lv' := [(6, .int (iI t0_20)), (0, .ref (aS 0)), (3, .ref (aU 0)), (4, .int (iI v4_20)), (5, .int (iI v5_20))]) C.1 C.2.1 dX4_advance_20 hl (by decide) rfl (fun ls hl => ?_)
    refine x_iconst C dX4_advance_22 ?_
    refine lv_istore (lv' := [(7, .int (iI 0)), (6, .int (iI t0_20)), (0, .ref (aS 0)), (3, .ref (aU 0)), (4, .int (iI v4_20)), (5, .int (iI v5_20))]) C.1 C.2.1 dX4_advance_23 hl (by decide) rfl (fun ls hl => ?_)
    refine lv_iload C.1 C.2.1 dX4_advance_25 (lv_at hl 4 rfl) ?_
    refine lv_aload_n C.1 C.2.1 dX4_advance_27 rfl (lv_at hl 3 rfl) ?_
    refine x_getN C Z 8 rfl rfl i_X5_X4_advance (k := 6) (by decide) C.2.2.2.2.2.2.1.2.2.1 rfl dX4_advance_28 ?_
    have q1 := (ck_some hj20).1
    have h2 := (ck_some hj20).2
    clear hj20
    have q3 := (ck_some h2).1
    have h4 := (ck_some h2).2
    clear h2
    refine x_mmin (rest := []) C hl.1 (List.mem_of_getElem? (i := 1) rfl) (List.mem_of_getElem? (i := 2) rfl) (List.mem_of_getElem? (i := 3) rfl) (List.mem_of_getElem? (i := 4) rfl) (by decide) (by decide) (Nat.le_of_ble_eq_true rfl) ⟨Nat.zero_le _, Nat.zero_le _⟩ q1 q3 dX4_advance_31 ?_
    refine x_bipush C dX4_advance_34 (by decide) ?_
    have q5 := (ck_some h4).1
    have h6 := (ck_some h4).2
    clear h4
    refine x_mmin (rest := []) C hl.1 (List.mem_of_getElem? (i := 1) rfl) (List.mem_of_getElem? (i := 2) rfl) (List.mem_of_getElem? (i := 3) rfl) (List.mem_of_getElem? (i := 4) rfl) (by decide) (by decide) (Nat.le_of_ble_eq_true rfl) ⟨Nat.zero_le _, Nat.zero_le _⟩ q5 (by decide) dX4_advance_36 ?_
    refine x_iconst C dX4_advance_39 ?_
    refine x_isub C dX4_advance_40 ?_
    refine lv_istore (lv' := [(8, .int (iI ((min (min v4_20 sU.length) 60) - 1))), (7, .int (iI 0)), (6, .int (iI t0_20)), (0, .ref (aS 0)), (3, .ref (aU 0)), (4, .int (iI v4_20)), (5, .int (iI v5_20))]) C.1 C.2.1 dX4_advance_41 hl (by decide) rfl (fun ls hl => ?_)
    obtain ⟨ex43, hl43, h92⟩ := bd_some h6
    clear h6
    have hK43 : ∀ (H : Heap) (locs : List Loc) (ls : Array Slot), xSt g A s (wS g aS ex43.2 ++ (wT g aT sT ++ wT g aU sU)) H locs → lv_has ls 10 [(7, .int (iI ex43.1))] → W p l e rmX4_advancen s m args below meth c H locs 0 0 QQ (F0 m 126 ls []) := by
      intro H locs ls Z hl
      have h93 := h92
      clear h92
      refine lv_iload C.1 C.2.1 dX4_advance_126 (lv_at hl 0 rfl) ?_
      have h94 := Option.some.inj h93
      subst h94
      exact hRet _ _ _ _ Z dX4_advance_128
    have hL43 : ∀ (k43 : Nat) (z43 : Int × Int × Row) (H : Heap) (locs : List Loc) (ls : Array Slot), lp (p_X4_advancen_b43 n sU v5_20 t0_20) k43 z43 = some ex43 → xSt g A s (wS g aS z43.2.2 ++ (wT g aT sT ++ wT g aU sU)) H locs → lv_has ls 10 [(0, .ref (aS 0)), (3, .ref (aU 0)), (5, .int (iI v5_20)), (6, .int (iI t0_20)), (7, .int (iI z43.1)), (8, .int (iI z43.2.1))] → W p l e rmX4_advancen s m args below meth c H locs 0 0 QQ (F0 m 43 ls []) := by
      intro k43
      induction k43 with
      | zero => intro z43 H locs ls h; exact (lp_0 h).elim
      | succ k43 ih43 =>
        intro z43 H locs ls h Z hl
        obtain ⟨x43, hb43, hx43⟩ := lp_s h
        clear h
        unfold p_X4_advancen_b43 at hb43
        have hJ100 : ∀ (sS_lengths_100 : Row) (v7_100 : Int) (v8_100 : Int) (v9_100 : Int) (H : Heap) (locs : List Loc) (ls : Array Slot), p_X4_advancen_j100 n sS_lengths_100 v7_100 v8_100 v9_100 = some x43 → xSt g A s (wS g aS sS_lengths_100 ++ (wT g aT sT ++ wT g aU sU)) H locs → lv_has ls 10 [(0, .ref (aS 0)), (3, .ref (aU 0)), (5, .int (iI v5_20)), (6, .int (iI t0_20)), (7, .int (iI v7_100)), (8, .int (iI v8_100)), (9, .int (iI v9_100))] → W p l e rmX4_advancen s m args below meth c H locs 0 0 QQ (F0 m 100 ls []) := by
          intro sS_lengths_100 v7_100 v8_100 v9_100 H locs ls hj100 Z hl
          unfold p_X4_advancen_j100 at hj100
          refine lv_aload_n C.1 C.2.1 dX4_advance_100 rfl (lv_at hl 0 rfl) ?_
          refine x_get C Z 0 rfl rfl i_X4_X4_advance (k := 0) (by decide) (List.mem_of_getElem? (i := 5) rfl) rfl dX4_advance_101 ?_
          refine lv_iload C.1 C.2.1 dX4_advance_104 (lv_at hl 5 rfl) ?_
          refine lv_iload C.1 C.2.1 dX4_advance_106 (lv_at hl 6 rfl) ?_
          have q51 := (ix_some hj100).1
          have h52 := (ix_some hj100).2
          clear hj100
          refine x_iast (ws2 := wS g aS (up sS_lengths_100 v8_100 v9_100) ++ (wT g aT sT ++ wT g aU sU)) C Z 1 rfl (by decide) q51 dX4_advance_108 rfl (fun H locs Z => ?_)
          refine lv_iload C.1 C.2.1 dX4_advance_109 (lv_at hl 6 rfl) ?_
          refine lv_iload C.1 C.2.1 dX4_advance_111 (lv_at hl 4 rfl) ?_
          have q53 := (ck_some h52).1
          have h54 := (ck_some h52).2
          clear h52
          have q55 := (ck_some h54).1
          have h56 := (ck_some h54).2
          clear h54
          refine x_icmp_le (tgt := 120) C dX4_advance_113 (by decide) q53 q55 (fun c57 => ?_) (fun c57 => ?_)
          · have h58 := if_n h56 c57
            clear h56
            refine x_iinc (lv' := [(8, .int (iI (v8_100 + (-1)))), (0, .ref (aS 0)), (3, .ref (aU 0)), (5, .int (iI v5_20)), (6, .int (iI t0_20)), (7, .int (iI v7_100)), (9, .int (iI v9_100))]) C dX4_advance_120 hl (k := 5) rfl (by decide) rfl (fun ls hl => ?_)
            refine lv_goto (tgt := 43) C.1 C.2.1 dX4_advance_123 (by decide) ?_
            cases h58
            exact ih43 (v7_100, v8_100 + (-1), up sS_lengths_100 v8_100 v9_100) _ _ _ (lp_L2 hx43) Z (lv_sub hl [1, 2, 3, 4, 5, 0] rfl)
          · have h59 := if_p h56 c57
            clear h56
            refine lv_iload C.1 C.2.1 dX4_advance_116 (lv_at hl 6 rfl) ?_
            refine lv_istore (lv' := [(7, .int (iI v9_100)), (0, .ref (aS 0)), (3, .ref (aU 0)), (5, .int (iI v5_20)), (6, .int (iI t0_20)), (8, .int (iI v8_100)), (9, .int (iI v9_100))]) C.1 C.2.1 dX4_advance_118 hl (by decide) rfl (fun ls hl => ?_)
            refine x_iinc (lv' := [(8, .int (iI (v8_100 + (-1)))), (7, .int (iI v9_100)), (0, .ref (aS 0)), (3, .ref (aU 0)), (5, .int (iI v5_20)), (6, .int (iI t0_20)), (9, .int (iI v9_100))]) C dX4_advance_120 hl (k := 5) rfl (by decide) rfl (fun ls hl => ?_)
            refine lv_goto (tgt := 43) C.1 C.2.1 dX4_advance_123 (by decide) ?_
            cases h59
            exact ih43 (v9_100, v8_100 + (-1), up sS_lengths_100 v8_100 v9_100) _ _ _ (lp_L2 hx43) Z (lv_sub hl [2, 3, 4, 5, 1, 0] rfl)
        have hJ98 : ∀ (sS_lengths_98 : Row) (v7_98 : Int) (v8_98 : Int) (t0_98 : Int) (H : Heap) (locs : List Loc) (ls : Array Slot), p_X4_advancen_j98 n sS_lengths_98 v7_98 v8_98 t0_98 = some x43 → xSt g A s (wS g aS sS_lengths_98 ++ (wT g aT sT ++ wT g aU sU)) H locs → lv_has ls 10 [(0, .ref (aS 0)), (3, .ref (aU 0)), (5, .int (iI v5_20)), (6, .int (iI t0_20)), (7, .int (iI v7_98)), (8, .int (iI v8_98))] → W p l e rmX4_advancen s m args below meth c H locs 0 0 QQ (F0 m 98 ls [.int (iI t0_98)]) := by
          intro sS_lengths_98 v7_98 v8_98 t0_98 H locs ls hj98 Z hl
          unfold p_X4_advancen_j98 at hj98
          refine lv_istore (lv' := [(9, .int (iI t0_98)), (0, .ref (aS 0)), (3, .ref (aU 0)), (5, .int (iI v5_20)), (6, .int (iI t0_20)), (7, .int (iI v7_98)), (8, .int (iI v8_98))]) C.1 C.2.1 dX4_advance_98 hl (by decide) rfl (fun ls hl => ?_)
          exact hJ100 sS_lengths_98 v7_98 v8_98 t0_98 _ _ _ hj98 Z (lv_sub hl [1, 2, 3, 4, 5, 6, 0] rfl)
        have hJ97 : ∀ (sS_lengths_97 : Row) (v7_97 : Int) (v8_97 : Int) (H : Heap) (locs : List Loc) (ls : Array Slot), p_X4_advancen_j97 n sS_lengths_97 v7_97 v8_97 = some x43 → xSt g A s (wS g aS sS_lengths_97 ++ (wT g aT sT ++ wT g aU sU)) H locs → lv_has ls 10 [(0, .ref (aS 0)), (3, .ref (aU 0)), (5, .int (iI v5_20)), (6, .int (iI t0_20)), (7, .int (iI v7_97)), (8, .int (iI v8_97))] → W p l e rmX4_advancen s m args below meth c H locs 0 0 QQ (F0 m 97 ls []) := by
          intro sS_lengths_97 v7_97 v8_97 H locs ls hj97 Z hl
          unfold p_X4_advancen_j97 at hj97
          refine x_iconst C dX4_advance_97 ?_
          exact hJ98 sS_lengths_97 v7_97 v8_97 1 _ _ _ hj97 Z (lv_sub hl [0, 1, 2, 3, 4, 5] rfl)
        refine lv_iload C.1 C.2.1 dX4_advance_43 (lv_at hl 5 rfl) ?_
        have q60 := (ck_some hb43).1
        have h61 := (ck_some hb43).2
        clear hb43
        refine x_if_lt (tgt := 126) C dX4_advance_45 (by decide) q60 (fun c62 => ?_) (fun c62 => ?_)
        · have h63 := if_p h61 c62
          clear h61
          cases h63
          have h65 := lp_R hx43
          subst h65
          exact hK43 _ _ _ Z (lv_sub hl [4] rfl)
        · have h64 := if_n h61 c62
          clear h61
          refine x_iconst C dX4_advance_48 ?_
          refine lv_istore (lv' := [(9, .int (iI 0)), (0, .ref (aS 0)), (3, .ref (aU 0)), (5, .int (iI v5_20)), (6, .int (iI t0_20)), (7, .int (iI z43.1)), (8, .int (iI z43.2.1))]) C.1 C.2.1 dX4_advance_49 hl (by decide) rfl (fun ls hl => ?_)
          refine lv_aload_n C.1 C.2.1 dX4_advance_51 rfl (lv_at hl 2 rfl) ?_
          refine x_getN C Z 8 rfl rfl i_X5_X4_advance (k := 0) (by decide) C.2.2.2.2.2.2.1.1 rfl dX4_advance_52 ?_
          refine lv_iload C.1 C.2.1 dX4_advance_55 (lv_at hl 6 rfl) ?_
          have q66 := (ix_some h64).1
          have h67 := (ix_some h64).2
          clear h64
          refine x_iald C Z 9 rfl (by decide) q66 dX4_advance_57 ?_
          refine lv_iload C.1 C.2.1 dX4_advance_58 (lv_at hl 3 rfl) ?_
          have q68 := (ck_some h67).1
          have h69 := (ck_some h67).2
          clear h67
          have q70 := (ck_some h69).1
          have h71 := (ck_some h69).2
          clear h69
          refine x_icmp_ne (tgt := 100) C dX4_advance_60 (by decide) q68 q70 (fun c72 => ?_) (fun c72 => ?_)
          · have h73 := if_n h71 c72
            clear h71
            exact hJ100 z43.2.2 z43.1 z43.2.1 0 _ _ _ h73 Z (lv_sub hl [1, 2, 3, 4, 5, 6, 0] rfl)
          · have h74 := if_p h71 c72
            clear h71
            refine lv_iload C.1 C.2.1 dX4_advance_63 (lv_at hl 4 rfl) ?_
            have q75 := (ck_some h74).1
            have h76 := (ck_some h74).2
            clear h74
            refine x_if_eq (tgt := 97) C dX4_advance_65 (by decide) q75 (fun c77 => ?_) (fun c77 => ?_)
            · have h78 := if_p h76 c77
              clear h76
              exact hJ97 z43.2.2 z43.1 z43.2.1 _ _ _ h78 Z (lv_sub hl [1, 2, 3, 4, 5, 6] rfl)
            · have h79 := if_n h76 c77
              clear h76
              refine lv_iload C.1 C.2.1 dX4_advance_68 (lv_at hl 6 rfl) ?_
              refine x_if_le (tgt := 97) C dX4_advance_70 (by decide) q60 (fun c80 => ?_) (fun c80 => ?_)
              · have h81 := if_n h79 c80
                clear h79
                exact hJ97 z43.2.2 z43.1 z43.2.1 _ _ _ h81 Z (lv_sub hl [1, 2, 3, 4, 5, 6] rfl)
              · have h82 := if_p h79 c80
                clear h79
                refine lv_aload_n C.1 C.2.1 dX4_advance_73 rfl (lv_at hl 2 rfl) ?_
                refine x_getN C Z 8 rfl rfl i_X5_X4_advance (k := 2) (by decide) C.2.2.2.2.2.2.1.2.1 rfl dX4_advance_74 ?_
                refine lv_iload C.1 C.2.1 dX4_advance_77 (lv_at hl 6 rfl) ?_
                refine x_iald C Z 11 rfl (by decide) q66 dX4_advance_79 ?_
                have q85 := (ck_some h82).1
                have h86 := (ck_some h82).2
                clear h82
                refine x_if_le (tgt := 97) C dX4_advance_80 (by decide) q85 (fun c87 => ?_) (fun c87 => ?_)
                · have h88 := if_n h86 c87
                  clear h86
                  exact hJ97 z43.2.2 z43.1 z43.2.1 _ _ _ h88 Z (lv_sub hl [1, 2, 3, 4, 5, 6] rfl)
                · have h89 := if_p h86 c87
                  clear h86
                  refine lv_aload_n C.1 C.2.1 dX4_advance_83 rfl (lv_at hl 1 rfl) ?_
                  refine x_get C Z 0 rfl rfl i_X4_X4_advance (k := 0) (by decide) (List.mem_of_getElem? (i := 5) rfl) rfl dX4_advance_84 ?_
                  refine lv_iload C.1 C.2.1 dX4_advance_87 (lv_at hl 6 rfl) ?_
                  refine x_iconst C dX4_advance_89 ?_
                  refine x_isub C dX4_advance_90 ?_
                  have q90 := (ix_some h89).1
                  have h91 := (ix_some h89).2
                  clear h89
                  refine x_iald C Z 1 rfl (by decide) q90 dX4_advance_91 ?_
                  refine x_iconst C dX4_advance_92 ?_
                  refine x_iadd C dX4_advance_93 ?_
                  refine lv_goto (tgt := 98) C.1 C.2.1 dX4_advance_94 (by decide) ?_
                  exact hJ98 z43.2.2 z43.1 z43.2.1 ((z43.2.2 (z43.2.1 - 1)) + 1) _ _ _ h91 Z (lv_sub hl [1, 2, 3, 4, 5, 6] rfl)
    exact hL43 n (0, (min (min v4_20 sU.length) 60) - 1, sS_20) _ _ _ hl43 Z (lv_sub hl [3, 4, 6, 2, 1, 0] rfl)
  refine lv_aload_n C.1 C.2.1 dX4_advance_0 rfl (lv_at hl 1 rfl) ?_
  refine lv_iload_n C.1 C.2.1 dX4_advance_1 rfl (lv_at hl 2 rfl) ?_
  obtain ⟨r95, hr95, h96⟩ := bd_some hf
  clear hf
  refine x_callV_i_J (As := [.int (iI v2)]) (rest := []) (q0 := 0) (ws2 := wS g aS sS ++ (wT g aT sT ++ wT g aU sU)) C Z fr_STU_1 (k_X5_letterAt l g n aT sT v2 r95 hr95) gX4_advance_X5_letterAt yk_X5_letterAt ⟨Nat.le_of_ble_eq_true rfl, Nat.le_of_ble_eq_true rfl⟩ rfl rfl ⟨Nat.zero_le _, Nat.zero_le _⟩ hl.1 rfl (Nat.le_of_ble_eq_true rfl) rfl dX4_advance_2 (fun H locs Z => ?_)
  refine lv_istore (lv' := [(5, .int (iI r95)), (0, .ref (aS 0)), (1, .ref (aT 0)), (2, .int (iI v2)), (3, .ref (aU 0)), (4, .int (iI v4))]) C.1 C.2.1 dX4_advance_5 hl (by decide) rfl (fun ls hl => ?_)
  refine lv_aload_n C.1 C.2.1 dX4_advance_7 rfl (lv_at hl 2 rfl) ?_
  refine lv_iload_n C.1 C.2.1 dX4_advance_8 rfl (lv_at hl 3 rfl) ?_
  obtain ⟨r97, hr97, h98⟩ := bd_some h96
  clear h96
  refine x_callV_i_J (As := [.int (iI v2)]) (rest := []) (q0 := 0) (ws2 := wS g aS sS ++ (wT g aT sT ++ wT g aU sU)) C Z fr_STU_1 (k_X5_placeAt l g n aT sT v2 r97 hr97) gX4_advance_X5_placeAt yk_X5_placeAt ⟨Nat.le_of_ble_eq_true rfl, Nat.le_of_ble_eq_true rfl⟩ rfl rfl ⟨Nat.zero_le _, Nat.zero_le _⟩ hl.1 rfl (Nat.le_of_ble_eq_true rfl) rfl dX4_advance_9 (fun H locs Z => ?_)
  have q99 := (ck_some h98).1
  have h100 := (ck_some h98).2
  clear h98
  refine x_if_le (tgt := 19) C dX4_advance_12 (by decide) q99 (fun c101 => ?_) (fun c101 => ?_)
  · have h102 := if_n h100 c101
    clear h100
    refine x_iconst C dX4_advance_19 ?_
    exact hJ20 sS v4 r95 0 _ _ _ h102 Z (lv_sub hl [1, 4, 5, 0] rfl)
  · have h103 := if_p h100 c101
    clear h100
    refine x_iconst C dX4_advance_15 ?_
    refine lv_goto (tgt := 20) C.1 C.2.1 dX4_advance_16 (by decide) ?_
    exact hJ20 sS v4 r95 1 _ _ _ h103 Z (lv_sub hl [1, 4, 5, 0] rfl)
abbrev rmX6_factorsOfOnly : Room := { frames := 3, cells := 0, slots := 0, locals := 71 }
theorem yk_X6_factorsOfOnly : xY yX6_factorsOfOnly RX6 cX6_factorsOfOnly 7 (some .int) wsX6_factorsOfOnly rmX6_factorsOfOnly 2 := ⟨⟨_, rfl⟩, by decide +kernel, rfl, rfl⟩
theorem i_X2_X6_factorsOfOnly : ∀ w ∈ u_ws RX2 TX2 5, w ∈ wsX6_factorsOfOnly := fun _ h => List.mem_cons_of_mem _ (List.mem_append_left _ (List.mem_append_right _ h))
theorem i_X4_X6_factorsOfOnly : ∀ w ∈ u_ws RX4 TX4 1, w ∈ wsX6_factorsOfOnly := fun _ h => List.mem_cons_of_mem _ (List.mem_append_right _ h)
theorem i_X5_X6_factorsOfOnly : ∀ w ∈ u_ws RX5 TX5 8, w ∈ wsX6_factorsOfOnly := fun _ h => List.mem_cons_of_mem _ (List.mem_append_left _ (List.mem_append_left _ (List.mem_append_right _ h)))
theorem i_X6_X6_factorsOfOnly : ∀ w ∈ u_ws RX6 TX6 11, w ∈ wsX6_factorsOfOnly := fun _ h => List.mem_cons_of_mem _ (List.mem_append_left _ (List.mem_append_left _ (List.mem_append_left _ (List.mem_append_right _ h))))
set_option maxHeartbeats 4000000 in
set_option maxRecDepth 100000 in
theorem k_X6_factorsOfOnly (l : Launch) (g : xG) (n : Nat) (aF : Nat → Nat) (aH : Nat → Nat) (aP : Nat → Nat) (aT : Nat → Nat) (aC : Nat → Nat) (aK : Nat → Nat) (aB : Nat → Nat) (aQ : Nat → Nat) (aU : Nat → Nat) (aV : Nat → Nat) (aS : Nat → Nat) (aR : Nat → Nat) (rr : Nat → Nat) (sF : Int) (sH : HisS) (sP : PadS) (sT : TxtS) (sC : ClsS) (sK : SwpS) (sB : BegS) (sQ : TxtS) (sU : TxtS) (sV : TxtS) (sS : SwpS) (sR : SwpS) (v1 : Int) (v2 : Int) (r : Int × TxtS × TxtS × SwpS × SwpS) (hf : p_X6_factorsOfOnly n sH sU sV sS sR v1 v2 = some r) : xMi l yX6_factorsOfOnly wsX6_factorsOfOnly rmX6_factorsOfOnly g [.ref (aF 0), .int (iI v1), .int (iI v2)] ((wF g aF (aH 0) (aP 0) (aT 0) (aC 0) (aB 0) (aQ 0) (aU 0) (aV 0) (aS 0) (aR 0) sF ++ (wH g aH sH ++ (wP g aP sP ++ (wT g aT sT ++ (wC g aC (aK 0) rr sC ++ (wS g aK sK ++ (wB g aB sB ++ (wT g aQ sQ ++ (wT g aU sU ++ (wT g aV sV ++ (wS g aS sS ++ wS g aR sR))))))))))) ++ wR g rr sC.classOf) ((wF g aF (aH 0) (aP 0) (aT 0) (aC 0) (aB 0) (aQ 0) (aU 0) (aV 0) (aS 0) (aR 0) sF ++ (wH g aH sH ++ (wP g aP sP ++ (wT g aT sT ++ (wC g aC (aK 0) rr sC ++ (wS g aK sK ++ (wB g aB sB ++ (wT g aQ sQ ++ (wT g aU r.2.1 ++ (wT g aV r.2.2.1 ++ (wS g aS r.2.2.2.1 ++ wS g aR r.2.2.2.2))))))))))) ++ wR g rr sC.classOf) r.1 := by
  refine x_ofW_i (own := RX6) (by decide) rfl rfl (Nat.le_of_ble_eq_true rfl) ?_
  intro p e s m args below meth c ls A QQ C hRet Z hl
  have hl : lv_has ls 7 [(0, .ref (aF 0)), (1, .int (iI v1)), (2, .int (iI v2))] := hl
  unfold p_X6_factorsOfOnly at hf
  refine lv_aload_n C.1 C.2.1 dX6_factorsOfOnly_0 rfl (lv_at hl 0 rfl) ?_
  refine x_get C Z 0 rfl rfl i_X6_X6_factorsOfOnly (k := 6) (by decide) (List.mem_of_getElem? (i := 1) rfl) rfl dX6_factorsOfOnly_1 ?_
  refine lv_aload_n C.1 C.2.1 dX6_factorsOfOnly_4 rfl (lv_at hl 0 rfl) ?_
  refine x_get C Z 0 rfl rfl i_X6_X6_factorsOfOnly (k := 0) (by decide) (List.mem_of_getElem? (i := 2) rfl) rfl dX6_factorsOfOnly_5 ?_
  refine lv_iload_n C.1 C.2.1 dX6_factorsOfOnly_8 rfl (lv_at hl 1 rfl) ?_
  obtain ⟨r1, hr1, h2⟩ := bd_some hf
  clear hf
  refine x_callV_v_Q (As := [.ref (aH 0), .int (iI v1)]) (rest := []) (q0 := 0) (X2 := (wF g aF (aH 0) (aP 0) (aT 0) (aC 0) (aB 0) (aQ 0) (aU 0) (aV 0) (aS 0) (aR 0) sF ++ (wH g aH sH ++ (wP g aP sP ++ (wT g aT sT ++ (wC g aC (aK 0) rr sC ++ (wS g aK sK ++ (wB g aB sB ++ (wT g aQ sQ ++ (wT g aU r1 ++ (wT g aV sV ++ (wS g aS sS ++ wS g aR sR)))))))))))) C Z fr_FHPTCKBQUVSR_8_1 (k_X5_takeVersion l g n aU aH sU sH v1 r1 hr1) gX6_factorsOfOnly_X5_takeVersion yk_X5_takeVersion ⟨Nat.le_of_ble_eq_true rfl, Nat.le_of_ble_eq_true rfl⟩ rfl rfl ⟨Nat.zero_le _, Nat.zero_le _⟩ hl.1 rfl (Nat.le_of_ble_eq_true rfl) rfl dX6_factorsOfOnly_9 (fun H locs Z => ?_)
  refine lv_aload_n C.1 C.2.1 dX6_factorsOfOnly_12 rfl (lv_at hl 0 rfl) ?_
  refine x_get C Z 0 rfl rfl i_X6_X6_factorsOfOnly (k := 7) (by decide) (List.mem_of_getElem? (i := 3) rfl) rfl dX6_factorsOfOnly_13 ?_
  refine lv_aload_n C.1 C.2.1 dX6_factorsOfOnly_16 rfl (lv_at hl 0 rfl) ?_
  refine x_get C Z 0 rfl rfl i_X6_X6_factorsOfOnly (k := 0) (by decide) (List.mem_of_getElem? (i := 2) rfl) rfl dX6_factorsOfOnly_17 ?_
  refine lv_iload_n C.1 C.2.1 dX6_factorsOfOnly_20 rfl (lv_at hl 2 rfl) ?_
  obtain ⟨r3, hr3, h4⟩ := bd_some h2
  clear h2
  refine x_callV_v_Q (As := [.ref (aH 0), .int (iI v2)]) (rest := []) (q0 := 0) (X2 := (wF g aF (aH 0) (aP 0) (aT 0) (aC 0) (aB 0) (aQ 0) (aU 0) (aV 0) (aS 0) (aR 0) sF ++ (wH g aH sH ++ (wP g aP sP ++ (wT g aT sT ++ (wC g aC (aK 0) rr sC ++ (wS g aK sK ++ (wB g aB sB ++ (wT g aQ sQ ++ (wT g aU r1 ++ (wT g aV r3 ++ (wS g aS sS ++ wS g aR sR)))))))))))) C Z fr_FHPTCKBQUVSR_9_1 (k_X5_takeVersion l g n aV aH sV sH v2 r3 hr3) gX6_factorsOfOnly_X5_takeVersion yk_X5_takeVersion ⟨Nat.le_of_ble_eq_true rfl, Nat.le_of_ble_eq_true rfl⟩ rfl rfl ⟨Nat.zero_le _, Nat.zero_le _⟩ hl.1 rfl (Nat.le_of_ble_eq_true rfl) rfl dX6_factorsOfOnly_21 (fun H locs Z => ?_)
  refine x_iconst C dX6_factorsOfOnly_24 ?_
  refine lv_istore_n (lv' := [(3, .int (iI 0)), (0, .ref (aF 0)), (1, .int (iI v1)), (2, .int (iI v2))]) C.1 C.2.1 dX6_factorsOfOnly_25 rfl hl (by decide) rfl (fun ls hl => ?_)
  refine x_iconst C dX6_factorsOfOnly_26 ?_
  refine lv_istore (lv' := [(4, .int (iI 0)), (3, .int (iI 0)), (0, .ref (aF 0)), (1, .int (iI v1)), (2, .int (iI v2))]) C.1 C.2.1 dX6_factorsOfOnly_27 hl (by decide) rfl (fun ls hl => ?_)
  obtain ⟨ex29, hl29, h49⟩ := bd_some h4
  clear h4
  have hK29 : ∀ (H : Heap) (locs : List Loc) (ls : Array Slot), xSt g A s ((wF g aF (aH 0) (aP 0) (aT 0) (aC 0) (aB 0) (aQ 0) (aU 0) (aV 0) (aS 0) (aR 0) sF ++ (wH g aH sH ++ (wP g aP sP ++ (wT g aT sT ++ (wC g aC (aK 0) rr sC ++ (wS g aK sK ++ (wB g aB sB ++ (wT g aQ sQ ++ (wT g aU r1 ++ (wT g aV r3 ++ (wS g aS ex29.2.1 ++ wS g aR ex29.2.2))))))))))) ++ wR g rr sC.classOf) H locs → lv_has ls 7 [(3, .int (iI ex29.1))] → W p l e rmX6_factorsOfOnly s m args below meth c H locs 0 0 QQ (F0 m 116 ls []) := by
    intro H locs ls Z hl
    have h50 := h49
    clear h49
    refine lv_iload_n C.1 C.2.1 dX6_factorsOfOnly_116 rfl (lv_at hl 0 rfl) ?_
    have h51 := Option.some.inj h50
    subst h51
    exact hRet _ _ _ _ Z dX6_factorsOfOnly_117
  have hL29 : ∀ (k29 : Nat) (z29 : Int × Int × SwpS × SwpS) (H : Heap) (locs : List Loc) (ls : Array Slot), lp (p_X6_factorsOfOnly_b29 n r1 r3) k29 z29 = some ex29 → xSt g A s ((wF g aF (aH 0) (aP 0) (aT 0) (aC 0) (aB 0) (aQ 0) (aU 0) (aV 0) (aS 0) (aR 0) sF ++ (wH g aH sH ++ (wP g aP sP ++ (wT g aT sT ++ (wC g aC (aK 0) rr sC ++ (wS g aK sK ++ (wB g aB sB ++ (wT g aQ sQ ++ (wT g aU r1 ++ (wT g aV r3 ++ (wS g aS z29.2.2.1 ++ wS g aR z29.2.2.2))))))))))) ++ wR g rr sC.classOf) H locs → lv_has ls 7 [(0, .ref (aF 0)), (3, .int (iI z29.1)), (4, .int (iI z29.2.1))] → W p l e rmX6_factorsOfOnly s m args below meth c H locs 0 0 QQ (F0 m 29 ls []) := by
    intro k29
    induction k29 with
    | zero => intro z29 H locs ls h; exact (lp_0 h).elim
    | succ k29 ih29 =>
      intro z29 H locs ls h Z hl
      obtain ⟨x29, hb29, hx29⟩ := lp_s h
      clear h
      unfold p_X6_factorsOfOnly_b29 at hb29
      refine lv_iload C.1 C.2.1 dX6_factorsOfOnly_29 (lv_at hl 2 rfl) ?_
      refine lv_aload_n C.1 C.2.1 dX6_factorsOfOnly_31 rfl (lv_at hl 0 rfl) ?_
      refine x_get C Z 0 rfl rfl i_X6_X6_factorsOfOnly (k := 6) (by decide) (List.mem_of_getElem? (i := 1) rfl) rfl dX6_factorsOfOnly_32 ?_
      obtain ⟨r27, hr27, h28⟩ := bd_some hb29
      clear hb29
      refine x_callV_i_Q (As := []) (rest := [.int (iI z29.2.1)]) (q0 := 0) (X2 := (wF g aF (aH 0) (aP 0) (aT 0) (aC 0) (aB 0) (aQ 0) (aU 0) (aV 0) (aS 0) (aR 0) sF ++ (wH g aH sH ++ (wP g aP sP ++ (wT g aT sT ++ (wC g aC (aK 0) rr sC ++ (wS g aK sK ++ (wB g aB sB ++ (wT g aQ sQ ++ (wT g aU r1 ++ (wT g aV r3 ++ (wS g aS z29.2.2.1 ++ wS g aR z29.2.2.2)))))))))))) C Z fr_FHPTCKBQUVSR_8 (k_X5_length l g n aU r1 r27 hr27) gX6_factorsOfOnly_X5_length yk_X5_length ⟨Nat.le_of_ble_eq_true rfl, Nat.le_of_ble_eq_true rfl⟩ rfl rfl ⟨Nat.zero_le _, Nat.zero_le _⟩ hl.1 rfl (Nat.le_of_ble_eq_true rfl) rfl dX6_factorsOfOnly_35 (fun H locs Z => ?_)
      have q29 := (ck_some h28).1
      have h30 := (ck_some h28).2
      clear h28
      have q31 := (ck_some h30).1
      have h32 := (ck_some h30).2
      clear h30
      refine x_icmp_ge (tgt := 116) C dX6_factorsOfOnly_38 (by decide) q29 q31 (fun c33 => ?_) (fun c33 => ?_)
      · have h34 := if_n h32 c33
        clear h32
        cases h34
        have h36 := lp_R hx29
        subst h36
        exact hK29 _ _ _ Z (lv_sub hl [1] rfl)
      · have h35 := if_p h32 c33
        clear h32
        refine lv_aload_n C.1 C.2.1 dX6_factorsOfOnly_41 rfl (lv_at hl 0 rfl) ?_
        refine x_get C Z 0 rfl rfl i_X6_X6_factorsOfOnly (k := 8) (by decide) (List.mem_of_getElem? (i := 4) rfl) rfl dX6_factorsOfOnly_42 ?_
        refine lv_aload_n C.1 C.2.1 dX6_factorsOfOnly_45 rfl (lv_at hl 0 rfl) ?_
        refine x_get C Z 0 rfl rfl i_X6_X6_factorsOfOnly (k := 6) (by decide) (List.mem_of_getElem? (i := 1) rfl) rfl dX6_factorsOfOnly_46 ?_
        refine lv_iload C.1 C.2.1 dX6_factorsOfOnly_49 (lv_at hl 2 rfl) ?_
        refine lv_aload_n C.1 C.2.1 dX6_factorsOfOnly_51 rfl (lv_at hl 0 rfl) ?_
        refine x_get C Z 0 rfl rfl i_X6_X6_factorsOfOnly (k := 6) (by decide) (List.mem_of_getElem? (i := 1) rfl) rfl dX6_factorsOfOnly_52 ?_
        refine lv_iload C.1 C.2.1 dX6_factorsOfOnly_55 (lv_at hl 2 rfl) ?_
        obtain ⟨r37, hr37, h38⟩ := bd_some h35
        clear h35
        refine x_callV_i_Q (As := [.ref (aU 0), .int (iI z29.2.1), .ref (aU 0), .int (iI z29.2.1)]) (rest := []) (q0 := 0) (X2 := (wF g aF (aH 0) (aP 0) (aT 0) (aC 0) (aB 0) (aQ 0) (aU 0) (aV 0) (aS 0) (aR 0) sF ++ (wH g aH sH ++ (wP g aP sP ++ (wT g aT sT ++ (wC g aC (aK 0) rr sC ++ (wS g aK sK ++ (wB g aB sB ++ (wT g aQ sQ ++ (wT g aU r1 ++ (wT g aV r3 ++ (wS g aS r37.2 ++ wS g aR z29.2.2.2)))))))))))) C Z fr_FHPTCKBQUVSR_10_8 (k_X4_advancea l g n aS aU z29.2.2.1 r1 z29.2.1 z29.2.1 r37 hr37) gX6_factorsOfOnly_X4_advance yk_X4_advancea ⟨Nat.le_of_ble_eq_true rfl, Nat.le_of_ble_eq_true rfl⟩ rfl rfl ⟨Nat.zero_le _, Nat.zero_le _⟩ hl.1 rfl (Nat.le_of_ble_eq_true rfl) rfl dX6_factorsOfOnly_57 (fun H locs Z => ?_)
        refine lv_istore (lv' := [(5, .int (iI r37.1)), (0, .ref (aF 0)), (3, .int (iI z29.1)), (4, .int (iI z29.2.1))]) C.1 C.2.1 dX6_factorsOfOnly_60 hl (by decide) rfl (fun ls hl => ?_)
        refine lv_aload_n C.1 C.2.1 dX6_factorsOfOnly_62 rfl (lv_at hl 1 rfl) ?_
        refine x_get C Z 0 rfl rfl i_X6_X6_factorsOfOnly (k := 9) (by decide) (List.mem_of_getElem? (i := 5) rfl) rfl dX6_factorsOfOnly_63 ?_
        refine lv_aload_n C.1 C.2.1 dX6_factorsOfOnly_66 rfl (lv_at hl 1 rfl) ?_
        refine x_get C Z 0 rfl rfl i_X6_X6_factorsOfOnly (k := 6) (by decide) (List.mem_of_getElem? (i := 1) rfl) rfl dX6_factorsOfOnly_67 ?_
        refine lv_iload C.1 C.2.1 dX6_factorsOfOnly_70 (lv_at hl 3 rfl) ?_
        refine lv_aload_n C.1 C.2.1 dX6_factorsOfOnly_72 rfl (lv_at hl 1 rfl) ?_
        refine x_get C Z 0 rfl rfl i_X6_X6_factorsOfOnly (k := 7) (by decide) (List.mem_of_getElem? (i := 3) rfl) rfl dX6_factorsOfOnly_73 ?_
        refine lv_aload_n C.1 C.2.1 dX6_factorsOfOnly_76 rfl (lv_at hl 1 rfl) ?_
        refine x_get C Z 0 rfl rfl i_X6_X6_factorsOfOnly (k := 7) (by decide) (List.mem_of_getElem? (i := 3) rfl) rfl dX6_factorsOfOnly_77 ?_
        obtain ⟨r39, hr39, h40⟩ := bd_some h38
        clear h38
        refine x_callV_i_Q (As := []) (rest := [.ref (aV 0), .int (iI z29.2.1), .ref (aU 0), .ref (aR 0)]) (q0 := 0) (X2 := (wF g aF (aH 0) (aP 0) (aT 0) (aC 0) (aB 0) (aQ 0) (aU 0) (aV 0) (aS 0) (aR 0) sF ++ (wH g aH sH ++ (wP g aP sP ++ (wT g aT sT ++ (wC g aC (aK 0) rr sC ++ (wS g aK sK ++ (wB g aB sB ++ (wT g aQ sQ ++ (wT g aU r1 ++ (wT g aV r3 ++ (wS g aS r37.2 ++ wS g aR z29.2.2.2)))))))))))) C Z fr_FHPTCKBQUVSR_9 (k_X5_length l g n aV r3 r39 hr39) gX6_factorsOfOnly_X5_length yk_X5_length ⟨Nat.le_of_ble_eq_true rfl, Nat.le_of_ble_eq_true rfl⟩ rfl rfl ⟨Nat.zero_le _, Nat.zero_le _⟩ hl.1 rfl (Nat.le_of_ble_eq_true rfl) rfl dX6_factorsOfOnly_80 (fun H locs Z => ?_)
        obtain ⟨r41, hr41, h42⟩ := bd_some h40
        clear h40
        refine x_callV_i_Q (As := [.ref (aU 0), .int (iI z29.2.1), .ref (aV 0), .int (iI r39)]) (rest := []) (q0 := 0) (X2 := (wF g aF (aH 0) (aP 0) (aT 0) (aC 0) (aB 0) (aQ 0) (aU 0) (aV 0) (aS 0) (aR 0) sF ++ (wH g aH sH ++ (wP g aP sP ++ (wT g aT sT ++ (wC g aC (aK 0) rr sC ++ (wS g aK sK ++ (wB g aB sB ++ (wT g aQ sQ ++ (wT g aU r1 ++ (wT g aV r3 ++ (wS g aS r37.2 ++ wS g aR r41.2)))))))))))) C Z fr_FHPTCKBQUVSR_11_8_9 (k_X4_advancen l g n aR aU aV z29.2.2.2 r1 r3 z29.2.1 r39 r41 hr41) gX6_factorsOfOnly_X4_advance yk_X4_advancen ⟨Nat.le_of_ble_eq_true rfl, Nat.le_of_ble_eq_true rfl⟩ rfl rfl ⟨Nat.zero_le _, Nat.zero_le _⟩ hl.1 rfl (Nat.le_of_ble_eq_true rfl) rfl dX6_factorsOfOnly_83 (fun H locs Z => ?_)
        refine lv_istore (lv' := [(6, .int (iI r41.1)), (5, .int (iI r37.1)), (0, .ref (aF 0)), (3, .int (iI z29.1)), (4, .int (iI z29.2.1))]) C.1 C.2.1 dX6_factorsOfOnly_86 hl (by decide) rfl (fun ls hl => ?_)
        refine lv_iload_n C.1 C.2.1 dX6_factorsOfOnly_88 rfl (lv_at hl 3 rfl) ?_
        refine lv_aload_n C.1 C.2.1 dX6_factorsOfOnly_89 rfl (lv_at hl 2 rfl) ?_
        refine x_get C Z 0 rfl rfl i_X6_X6_factorsOfOnly (k := 6) (by decide) (List.mem_of_getElem? (i := 1) rfl) rfl dX6_factorsOfOnly_90 ?_
        refine lv_iload C.1 C.2.1 dX6_factorsOfOnly_93 (lv_at hl 4 rfl) ?_
        obtain ⟨r43, hr43, h44⟩ := bd_some h42
        clear h42
        refine x_callV_i_Q (As := [.int (iI z29.2.1)]) (rest := [.int (iI z29.1)]) (q0 := 0) (X2 := (wF g aF (aH 0) (aP 0) (aT 0) (aC 0) (aB 0) (aQ 0) (aU 0) (aV 0) (aS 0) (aR 0) sF ++ (wH g aH sH ++ (wP g aP sP ++ (wT g aT sT ++ (wC g aC (aK 0) rr sC ++ (wS g aK sK ++ (wB g aB sB ++ (wT g aQ sQ ++ (wT g aU r1 ++ (wT g aV r3 ++ (wS g aS r37.2 ++ wS g aR r41.2)))))))))))) C Z fr_FHPTCKBQUVSR_8 (k_X5_placeAt l g n aU r1 z29.2.1 r43 hr43) gX6_factorsOfOnly_X5_placeAt yk_X5_placeAt ⟨Nat.le_of_ble_eq_true rfl, Nat.le_of_ble_eq_true rfl⟩ rfl rfl ⟨Nat.zero_le _, Nat.zero_le _⟩ hl.1 rfl (Nat.le_of_ble_eq_true rfl) rfl dX6_factorsOfOnly_95 (fun H locs Z => ?_)
        refine x_iconst C dX6_factorsOfOnly_98 ?_
        refine x_iadd C dX6_factorsOfOnly_99 ?_
        refine lv_iload C.1 C.2.1 dX6_factorsOfOnly_100 (lv_at hl 1 rfl) ?_
        refine lv_iload C.1 C.2.1 dX6_factorsOfOnly_102 (lv_at hl 0 rfl) ?_
        have q45 := (ck_some h44).1
        have h46 := (ck_some h44).2
        clear h44
        have q47 := (ck_some h46).1
        have h48 := (ck_some h46).2
        clear h46
        refine x_mmax (rest := [.int (iI (r43 + 1)), .int (iI z29.1)]) C hl.1 (List.mem_of_getElem? (i := 6) rfl) (List.mem_of_getElem? (i := 7) rfl) (List.mem_of_getElem? (i := 8) rfl) (List.mem_of_getElem? (i := 9) rfl) (by decide) (by decide) (Nat.le_of_ble_eq_true rfl) ⟨Nat.zero_le _, Nat.zero_le _⟩ q45 q47 dX6_factorsOfOnly_104 ?_
        refine x_isub C dX6_factorsOfOnly_107 ?_
        refine x_iadd C dX6_factorsOfOnly_108 ?_
        refine lv_istore_n (lv' := [(3, .int (iI (z29.1 + ((r43 + 1) - (max r37.1 r41.1))))), (6, .int (iI r41.1)), (5, .int (iI r37.1)), (0, .ref (aF 0)), (4, .int (iI z29.2.1))]) C.1 C.2.1 dX6_factorsOfOnly_109 rfl hl (by decide) rfl (fun ls hl => ?_)
        refine x_iinc (lv' := [(4, .int (iI (z29.2.1 + 1))), (3, .int (iI (z29.1 + ((r43 + 1) - (max r37.1 r41.1))))), (6, .int (iI r41.1)), (5, .int (iI r37.1)), (0, .ref (aF 0))]) C dX6_factorsOfOnly_110 hl (k := 4) rfl (by decide) rfl (fun ls hl => ?_)
        refine lv_goto (tgt := 29) C.1 C.2.1 dX6_factorsOfOnly_113 (by decide) ?_
        cases h48
        exact ih29 (z29.1 + ((r43 + 1) - (max r37.1 r41.1)), z29.2.1 + 1, r37.2, r41.2) _ _ _ (lp_L2 hx29) Z (lv_sub hl [4, 1, 0] rfl)
  exact hL29 n (0, 0, sS, sR) _ _ _ hl29 Z (lv_sub hl [2, 1, 0] rfl)
abbrev rmX2_depthOf : Room := { frames := 2, cells := 0, slots := 0, locals := 42 }
theorem yk_X2_depthOf : xY yX2_depthOf RX2 cX2_depthOf 2 (some .int) wsX2_depthOf rmX2_depthOf 1 := ⟨⟨_, rfl⟩, by decide +kernel, rfl, rfl⟩
theorem i_X2_X2_depthOf : ∀ w ∈ u_ws RX2 TX2 5, w ∈ wsX2_depthOf := fun _ h => List.mem_cons_of_mem _ (List.mem_append_right _ h)
set_option maxHeartbeats 4000000 in
set_option maxRecDepth 100000 in
theorem k_X2_depthOf (l : Launch) (g : xG) (n : Nat) (aH : Nat → Nat) (sH : HisS) (v1 : Int) (r : Int) (hf : p_X2_depthOf sH v1 = some r) : xMi l yX2_depthOf wsX2_depthOf rmX2_depthOf g [.ref (aH 0), .int (iI v1)] (wH g aH sH) (wH g aH sH) r := by
  refine x_ofW_i (own := RX2) (by decide) rfl rfl (Nat.le_of_ble_eq_true rfl) ?_
  intro p e s m args below meth c ls A QQ C hRet Z hl
  have hl : lv_has ls 2 [(0, .ref (aH 0)), (1, .int (iI v1))] := hl
  unfold p_X2_depthOf at hf
  refine lv_aload_n C.1 C.2.1 dX2_depthOf_0 rfl (lv_at hl 0 rfl) ?_
  refine lv_iload_n C.1 C.2.1 dX2_depthOf_1 rfl (lv_at hl 1 rfl) ?_
  obtain ⟨r1, hr1, h2⟩ := bd_some hf
  clear hf
  refine x_callV_i_id (As := [.int (iI v1)]) (rest := []) (q0 := 0) C Z (k_X2_wordsIn l g n aH sH v1 r1 hr1) gX2_depthOf_X2_wordsIn yk_X2_wordsIn ⟨Nat.le_of_ble_eq_true rfl, Nat.le_of_ble_eq_true rfl⟩ rfl rfl ⟨Nat.zero_le _, Nat.zero_le _⟩ hl.1 rfl (Nat.le_of_ble_eq_true rfl) rfl dX2_depthOf_2 (fun H locs Z => ?_)
  refine lv_aload_n C.1 C.2.1 dX2_depthOf_5 rfl (lv_at hl 0 rfl) ?_
  refine lv_iload_n C.1 C.2.1 dX2_depthOf_6 rfl (lv_at hl 1 rfl) ?_
  obtain ⟨r3, hr3, h4⟩ := bd_some h2
  clear h2
  refine x_callV_i_id (As := [.int (iI v1)]) (rest := [.int (iI r1)]) (q0 := 0) C Z (k_X2_lettersIn l g n aH sH v1 r3 hr3) gX2_depthOf_X2_lettersIn yk_X2_lettersIn ⟨Nat.le_of_ble_eq_true rfl, Nat.le_of_ble_eq_true rfl⟩ rfl rfl ⟨Nat.zero_le _, Nat.zero_le _⟩ hl.1 rfl (Nat.le_of_ble_eq_true rfl) rfl dX2_depthOf_7 (fun H locs Z => ?_)
  refine x_iadd C dX2_depthOf_10 ?_
  have h5 := Option.some.inj h4
  subst h5
  exact hRet _ _ _ _ Z dX2_depthOf_11
abbrev rmX2_childrenOf : Room := { frames := 0, cells := 0, slots := 0, locals := 0 }
theorem yk_X2_childrenOf : xY yX2_childrenOf RX2 cX2_childrenOf 4 (some .int) wsX2_childrenOf rmX2_childrenOf 1 := ⟨⟨_, rfl⟩, by decide +kernel, rfl, rfl⟩
theorem i_X2_X2_childrenOf : ∀ w ∈ u_ws RX2 TX2 5, w ∈ wsX2_childrenOf := fun _ h => List.mem_cons_of_mem _ (List.mem_append_right _ h)
set_option maxHeartbeats 4000000 in
set_option maxRecDepth 100000 in
theorem k_X2_childrenOf (l : Launch) (g : xG) (n : Nat) (aH : Nat → Nat) (sH : HisS) (v1 : Int) (r : Int) (hf : p_X2_childrenOf n sH v1 = some r) : xMi l yX2_childrenOf wsX2_childrenOf rmX2_childrenOf g [.ref (aH 0), .int (iI v1)] (wH g aH sH) (wH g aH sH) r := by
  refine x_ofW_i (own := RX2) (by decide) rfl rfl (Nat.le_of_ble_eq_true rfl) ?_
  intro p e s m args below meth c ls A QQ C hRet Z hl
  have hl : lv_has ls 4 [(0, .ref (aH 0)), (1, .int (iI v1))] := hl
  unfold p_X2_childrenOf at hf
  refine x_iconst C dX2_childrenOf_0 ?_
  refine lv_istore_n (lv' := [(2, .int (iI 0)), (0, .ref (aH 0)), (1, .int (iI v1))]) C.1 C.2.1 dX2_childrenOf_1 rfl hl (by decide) rfl (fun ls hl => ?_)
  refine x_iconst C dX2_childrenOf_2 ?_
  refine lv_istore_n (lv' := [(3, .int (iI 1)), (2, .int (iI 0)), (0, .ref (aH 0)), (1, .int (iI v1))]) C.1 C.2.1 dX2_childrenOf_3 rfl hl (by decide) rfl (fun ls hl => ?_)
  obtain ⟨ex4, hl4, h35⟩ := bd_some hf
  clear hf
  have hK4 : ∀ (H : Heap) (locs : List Loc) (ls : Array Slot), xSt g A s (wH g aH sH) H locs → lv_has ls 4 [(2, .int (iI ex4))] → W p l e rmX2_childrenOf s m args below meth c H locs 0 0 QQ (F0 m 31 ls []) := by
    intro H locs ls Z hl
    have h36 := h35
    clear h35
    refine lv_iload_n C.1 C.2.1 dX2_childrenOf_31 rfl (lv_at hl 0 rfl) ?_
    have h37 := Option.some.inj h36
    subst h37
    exact hRet _ _ _ _ Z dX2_childrenOf_32
  have hL4 : ∀ (k4 : Nat) (z4 : Int × Int) (H : Heap) (locs : List Loc) (ls : Array Slot), lp (p_X2_childrenOf_b4 n sH v1) k4 z4 = some ex4 → xSt g A s (wH g aH sH) H locs → lv_has ls 4 [(0, .ref (aH 0)), (1, .int (iI v1)), (2, .int (iI z4.1)), (3, .int (iI z4.2))] → W p l e rmX2_childrenOf s m args below meth c H locs 0 0 QQ (F0 m 4 ls []) := by
    intro k4
    induction k4 with
    | zero => intro z4 H locs ls h; exact (lp_0 h).elim
    | succ k4 ih4 =>
      intro z4 H locs ls h Z hl
      obtain ⟨x4, hb4, hx4⟩ := lp_s h
      clear h
      unfold p_X2_childrenOf_b4 at hb4
      refine lv_iload_n C.1 C.2.1 dX2_childrenOf_4 rfl (lv_at hl 3 rfl) ?_
      refine lv_aload_n C.1 C.2.1 dX2_childrenOf_5 rfl (lv_at hl 0 rfl) ?_
      refine x_get C Z 0 rfl rfl i_X2_X2_childrenOf (k := 4) (by decide) (List.mem_of_getElem? (i := 1) rfl) rfl dX2_childrenOf_6 ?_
      have q18 := (ck_some hb4).1
      have h19 := (ck_some hb4).2
      clear hb4
      have q20 := (ck_some h19).1
      have h21 := (ck_some h19).2
      clear h19
      refine x_icmp_ge (tgt := 31) C dX2_childrenOf_9 (by decide) q18 q20 (fun c22 => ?_) (fun c22 => ?_)
      · have h23 := if_n h21 c22
        clear h21
        cases h23
        have h25 := lp_R hx4
        subst h25
        exact hK4 _ _ _ Z (lv_sub hl [2] rfl)
      · have h24 := if_p h21 c22
        clear h21
        refine lv_aload_n C.1 C.2.1 dX2_childrenOf_12 rfl (lv_at hl 0 rfl) ?_
        refine x_get C Z 0 rfl rfl i_X2_X2_childrenOf (k := 0) (by decide) (List.mem_of_getElem? (i := 2) rfl) rfl dX2_childrenOf_13 ?_
        refine lv_iload_n C.1 C.2.1 dX2_childrenOf_16 rfl (lv_at hl 3 rfl) ?_
        have q26 := (ix_some h24).1
        have h27 := (ix_some h24).2
        clear h24
        refine x_iald C Z 1 rfl (by decide) q26 dX2_childrenOf_17 ?_
        refine lv_iload_n C.1 C.2.1 dX2_childrenOf_18 rfl (lv_at hl 1 rfl) ?_
        have q28 := (ck_some h27).1
        have h29 := (ck_some h27).2
        clear h27
        have q30 := (ck_some h29).1
        have h31 := (ck_some h29).2
        clear h29
        refine x_icmp_ne (tgt := 25) C dX2_childrenOf_19 (by decide) q28 q30 (fun c32 => ?_) (fun c32 => ?_)
        · have h33 := if_n h31 c32
          clear h31
          refine x_iinc (lv' := [(3, .int (iI (z4.2 + 1))), (0, .ref (aH 0)), (1, .int (iI v1)), (2, .int (iI z4.1))]) C dX2_childrenOf_25 hl (k := 3) rfl (by decide) rfl (fun ls hl => ?_)
          refine lv_goto (tgt := 4) C.1 C.2.1 dX2_childrenOf_28 (by decide) ?_
          cases h33
          exact ih4 (z4.1, z4.2 + 1) _ _ _ (lp_L2 hx4) Z (lv_sub hl [1, 2, 3, 0] rfl)
        · have h34 := if_p h31 c32
          clear h31
          refine x_iinc (lv' := [(2, .int (iI (z4.1 + 1))), (0, .ref (aH 0)), (1, .int (iI v1)), (3, .int (iI z4.2))]) C dX2_childrenOf_22 hl (k := 2) rfl (by decide) rfl (fun ls hl => ?_)
          refine x_iinc (lv' := [(3, .int (iI (z4.2 + 1))), (2, .int (iI (z4.1 + 1))), (0, .ref (aH 0)), (1, .int (iI v1))]) C dX2_childrenOf_25 hl (k := 3) rfl (by decide) rfl (fun ls hl => ?_)
          refine lv_goto (tgt := 4) C.1 C.2.1 dX2_childrenOf_28 (by decide) ?_
          cases h34
          exact ih4 (z4.1 + 1, z4.2 + 1) _ _ _ (lp_L2 hx4) Z (lv_sub hl [2, 3, 1, 0] rfl)
  exact hL4 n (0, 1) _ _ _ hl4 Z (lv_sub hl [2, 3, 1, 0] rfl)
abbrev rmX6_version : Room := { frames := 4, cells := 0, slots := 0, locals := 97 }
theorem yk_X6_version : xY yX6_version RX6 cX6_version 3 (some .int) wsX6_version rmX6_version 2 := ⟨⟨_, rfl⟩, by decide +kernel, rfl, rfl⟩
theorem i_X2_X6_version : ∀ w ∈ u_ws RX2 TX2 5, w ∈ wsX6_version := fun _ h => List.mem_cons_of_mem _ (List.mem_append_left _ (List.mem_append_left _ (List.mem_append_right _ h)))
theorem i_X4_X6_version : ∀ w ∈ u_ws RX4 TX4 1, w ∈ wsX6_version := fun _ h => List.mem_cons_of_mem _ (List.mem_append_right _ h)
theorem i_X5_X6_version : ∀ w ∈ u_ws RX5 TX5 8, w ∈ wsX6_version := fun _ h => List.mem_cons_of_mem _ (List.mem_append_left _ (List.mem_append_right _ h))
theorem i_X6_X6_version : ∀ w ∈ u_ws RX6 TX6 11, w ∈ wsX6_version := fun _ h => List.mem_cons_of_mem _ (List.mem_append_left _ (List.mem_append_left _ (List.mem_append_left _ (List.mem_append_right _ h))))
set_option maxHeartbeats 4000000 in
set_option maxRecDepth 100000 in
theorem k_X6_version (l : Launch) (g : xG) (n : Nat) (aF : Nat → Nat) (aH : Nat → Nat) (aP : Nat → Nat) (aT : Nat → Nat) (aC : Nat → Nat) (aK : Nat → Nat) (aB : Nat → Nat) (aQ : Nat → Nat) (aU : Nat → Nat) (aV : Nat → Nat) (aS : Nat → Nat) (aR : Nat → Nat) (rr : Nat → Nat) (sF : Int) (sH : HisS) (sP : PadS) (sT : TxtS) (sC : ClsS) (sK : SwpS) (sB : BegS) (sQ : TxtS) (sU : TxtS) (sV : TxtS) (sS : SwpS) (sR : SwpS) (v1 : Int) (v2 : Int) (r : Int × TxtS × TxtS × SwpS × SwpS) (hf : p_X6_version n sH sU sV sS sR v1 v2 = some r) : xMi l yX6_version wsX6_version rmX6_version g [.ref (aF 0), .int (iI v1), .int (iI v2)] ((wF g aF (aH 0) (aP 0) (aT 0) (aC 0) (aB 0) (aQ 0) (aU 0) (aV 0) (aS 0) (aR 0) sF ++ (wH g aH sH ++ (wP g aP sP ++ (wT g aT sT ++ (wC g aC (aK 0) rr sC ++ (wS g aK sK ++ (wB g aB sB ++ (wT g aQ sQ ++ (wT g aU sU ++ (wT g aV sV ++ (wS g aS sS ++ wS g aR sR))))))))))) ++ wR g rr sC.classOf) ((wF g aF (aH 0) (aP 0) (aT 0) (aC 0) (aB 0) (aQ 0) (aU 0) (aV 0) (aS 0) (aR 0) sF ++ (wH g aH sH ++ (wP g aP sP ++ (wT g aT sT ++ (wC g aC (aK 0) rr sC ++ (wS g aK sK ++ (wB g aB sB ++ (wT g aQ sQ ++ (wT g aU r.2.1 ++ (wT g aV r.2.2.1 ++ (wS g aS r.2.2.2.1 ++ wS g aR r.2.2.2.2))))))))))) ++ wR g rr sC.classOf) r.1 := by
  refine x_ofW_i (own := RX6) (by decide) rfl rfl (Nat.le_of_ble_eq_true rfl) ?_
  intro p e s m args below meth c ls A QQ C hRet Z hl
  have hl : lv_has ls 3 [(0, .ref (aF 0)), (1, .int (iI v1)), (2, .int (iI v2))] := hl
  unfold p_X6_version at hf
  refine lv_aload_n C.1 C.2.1 dX6_version_0 rfl (lv_at hl 0 rfl) ?_
  refine x_get C Z 0 rfl rfl i_X6_X6_version (k := 0) (by decide) (List.mem_of_getElem? (i := 1) rfl) rfl dX6_version_1 ?_
  refine lv_iload_n C.1 C.2.1 dX6_version_4 rfl (lv_at hl 1 rfl) ?_
  obtain ⟨r1, hr1, h2⟩ := bd_some hf
  clear hf
  refine x_callV_i_Q (As := [.int (iI v1)]) (rest := []) (q0 := 0) (X2 := (wF g aF (aH 0) (aP 0) (aT 0) (aC 0) (aB 0) (aQ 0) (aU 0) (aV 0) (aS 0) (aR 0) sF ++ (wH g aH sH ++ (wP g aP sP ++ (wT g aT sT ++ (wC g aC (aK 0) rr sC ++ (wS g aK sK ++ (wB g aB sB ++ (wT g aQ sQ ++ (wT g aU sU ++ (wT g aV sV ++ (wS g aS sS ++ wS g aR sR)))))))))))) C Z fr_FHPTCKBQUVSR_1 (k_X2_has l g n aH sH v1 r1 hr1) gX6_version_X2_has yk_X2_has ⟨Nat.le_of_ble_eq_true rfl, Nat.le_of_ble_eq_true rfl⟩ rfl rfl ⟨Nat.zero_le _, Nat.zero_le _⟩ hl.1 rfl (Nat.le_of_ble_eq_true rfl) rfl dX6_version_5 (fun H locs Z => ?_)
  have q3 := (ck_some h2).1
  have h4 := (ck_some h2).2
  clear h2
  refine x_if_ne (tgt := 13) C dX6_version_8 (by decide) q3 (fun c5 => ?_) (fun c5 => ?_)
  · have h6 := if_n h4 c5
    clear h4
    refine lv_iload_n C.1 C.2.1 dX6_version_13 rfl (lv_at hl 2 rfl) ?_
    have q8 := (ck_some h6).1
    have h9 := (ck_some h6).2
    clear h6
    by_cases c10 : v2 = 0
    · have h11 := if_p h9 c10
      clear h9
      refine x_tin (tgt := 52) C dX6_version_14 q8 c10 (by decide) (by decide) (by rfl) (by decide) ?_
      refine lv_aload_n C.1 C.2.1 dX6_version_52 rfl (lv_at hl 0 rfl) ?_
      refine x_get C Z 0 rfl rfl i_X6_X6_version (k := 0) (by decide) (List.mem_of_getElem? (i := 1) rfl) rfl dX6_version_53 ?_
      refine lv_iload_n C.1 C.2.1 dX6_version_56 rfl (lv_at hl 1 rfl) ?_
      obtain ⟨r13, hr13, h14⟩ := bd_some h11
      clear h11
      refine x_callV_i_Q (As := [.int (iI v1)]) (rest := []) (q0 := 0) (X2 := (wF g aF (aH 0) (aP 0) (aT 0) (aC 0) (aB 0) (aQ 0) (aU 0) (aV 0) (aS 0) (aR 0) sF ++ (wH g aH sH ++ (wP g aP sP ++ (wT g aT sT ++ (wC g aC (aK 0) rr sC ++ (wS g aK sK ++ (wB g aB sB ++ (wT g aQ sQ ++ (wT g aU sU ++ (wT g aV sV ++ (wS g aS sS ++ wS g aR sR)))))))))))) C Z fr_FHPTCKBQUVSR_1 (k_X2_parentOf l g n aH sH v1 r13 hr13) gX6_version_X2_parentOf yk_X2_parentOf ⟨Nat.le_of_ble_eq_true rfl, Nat.le_of_ble_eq_true rfl⟩ rfl rfl ⟨Nat.zero_le _, Nat.zero_le _⟩ hl.1 rfl (Nat.le_of_ble_eq_true rfl) rfl dX6_version_57 (fun H locs Z => ?_)
      have h15 := Option.some.inj h14
      subst h15
      exact hRet _ _ _ _ Z dX6_version_60
    have h12 := if_n h9 c10
    clear h9
    by_cases c16 : v2 = 1
    · have h17 := if_p h12 c16
      clear h12
      refine x_tin (tgt := 61) C dX6_version_14 q8 c16 (by decide) (by decide) (by rfl) (by decide) ?_
      refine lv_aload_n C.1 C.2.1 dX6_version_61 rfl (lv_at hl 0 rfl) ?_
      refine x_get C Z 0 rfl rfl i_X6_X6_version (k := 0) (by decide) (List.mem_of_getElem? (i := 1) rfl) rfl dX6_version_62 ?_
      refine lv_iload_n C.1 C.2.1 dX6_version_65 rfl (lv_at hl 1 rfl) ?_
      obtain ⟨r19, hr19, h20⟩ := bd_some h17
      clear h17
      refine x_callV_i_Q (As := [.int (iI v1)]) (rest := []) (q0 := 0) (X2 := (wF g aF (aH 0) (aP 0) (aT 0) (aC 0) (aB 0) (aQ 0) (aU 0) (aV 0) (aS 0) (aR 0) sF ++ (wH g aH sH ++ (wP g aP sP ++ (wT g aT sT ++ (wC g aC (aK 0) rr sC ++ (wS g aK sK ++ (wB g aB sB ++ (wT g aQ sQ ++ (wT g aU sU ++ (wT g aV sV ++ (wS g aS sS ++ wS g aR sR)))))))))))) C Z fr_FHPTCKBQUVSR_1 (k_X2_childrenOf l g n aH sH v1 r19 hr19) gX6_version_X2_childrenOf yk_X2_childrenOf ⟨Nat.le_of_ble_eq_true rfl, Nat.le_of_ble_eq_true rfl⟩ rfl rfl ⟨Nat.zero_le _, Nat.zero_le _⟩ hl.1 rfl (Nat.le_of_ble_eq_true rfl) rfl dX6_version_66 (fun H locs Z => ?_)
      have h21 := Option.some.inj h20
      subst h21
      exact hRet _ _ _ _ Z dX6_version_69
    have h18 := if_n h12 c16
    clear h12
    by_cases c22 : v2 = 2
    · have h23 := if_p h18 c22
      clear h18
      refine x_tin (tgt := 70) C dX6_version_14 q8 c22 (by decide) (by decide) (by rfl) (by decide) ?_
      refine lv_aload_n C.1 C.2.1 dX6_version_70 rfl (lv_at hl 0 rfl) ?_
      refine x_get C Z 0 rfl rfl i_X6_X6_version (k := 0) (by decide) (List.mem_of_getElem? (i := 1) rfl) rfl dX6_version_71 ?_
      refine lv_iload_n C.1 C.2.1 dX6_version_74 rfl (lv_at hl 1 rfl) ?_
      obtain ⟨r25, hr25, h26⟩ := bd_some h23
      clear h23
      refine x_callV_i_Q (As := [.int (iI v1)]) (rest := []) (q0 := 0) (X2 := (wF g aF (aH 0) (aP 0) (aT 0) (aC 0) (aB 0) (aQ 0) (aU 0) (aV 0) (aS 0) (aR 0) sF ++ (wH g aH sH ++ (wP g aP sP ++ (wT g aT sT ++ (wC g aC (aK 0) rr sC ++ (wS g aK sK ++ (wB g aB sB ++ (wT g aQ sQ ++ (wT g aU sU ++ (wT g aV sV ++ (wS g aS sS ++ wS g aR sR)))))))))))) C Z fr_FHPTCKBQUVSR_1 (k_X2_wordsIn l g n aH sH v1 r25 hr25) gX6_version_X2_wordsIn yk_X2_wordsIn ⟨Nat.le_of_ble_eq_true rfl, Nat.le_of_ble_eq_true rfl⟩ rfl rfl ⟨Nat.zero_le _, Nat.zero_le _⟩ hl.1 rfl (Nat.le_of_ble_eq_true rfl) rfl dX6_version_75 (fun H locs Z => ?_)
      have h27 := Option.some.inj h26
      subst h27
      exact hRet _ _ _ _ Z dX6_version_78
    have h24 := if_n h18 c22
    clear h18
    by_cases c28 : v2 = 3
    · have h29 := if_p h24 c28
      clear h24
      refine x_tin (tgt := 79) C dX6_version_14 q8 c28 (by decide) (by decide) (by rfl) (by decide) ?_
      refine lv_aload_n C.1 C.2.1 dX6_version_79 rfl (lv_at hl 0 rfl) ?_
      refine x_get C Z 0 rfl rfl i_X6_X6_version (k := 0) (by decide) (List.mem_of_getElem? (i := 1) rfl) rfl dX6_version_80 ?_
      refine lv_iload_n C.1 C.2.1 dX6_version_83 rfl (lv_at hl 1 rfl) ?_
      obtain ⟨r31, hr31, h32⟩ := bd_some h29
      clear h29
      refine x_callV_i_Q (As := [.int (iI v1)]) (rest := []) (q0 := 0) (X2 := (wF g aF (aH 0) (aP 0) (aT 0) (aC 0) (aB 0) (aQ 0) (aU 0) (aV 0) (aS 0) (aR 0) sF ++ (wH g aH sH ++ (wP g aP sP ++ (wT g aT sT ++ (wC g aC (aK 0) rr sC ++ (wS g aK sK ++ (wB g aB sB ++ (wT g aQ sQ ++ (wT g aU sU ++ (wT g aV sV ++ (wS g aS sS ++ wS g aR sR)))))))))))) C Z fr_FHPTCKBQUVSR_1 (k_X2_lettersIn l g n aH sH v1 r31 hr31) gX6_version_X2_lettersIn yk_X2_lettersIn ⟨Nat.le_of_ble_eq_true rfl, Nat.le_of_ble_eq_true rfl⟩ rfl rfl ⟨Nat.zero_le _, Nat.zero_le _⟩ hl.1 rfl (Nat.le_of_ble_eq_true rfl) rfl dX6_version_84 (fun H locs Z => ?_)
      have h33 := Option.some.inj h32
      subst h33
      exact hRet _ _ _ _ Z dX6_version_87
    have h30 := if_n h24 c28
    clear h24
    by_cases c34 : v2 = 4
    · have h35 := if_p h30 c34
      clear h30
      refine x_tin (tgt := 88) C dX6_version_14 q8 c34 (by decide) (by decide) (by rfl) (by decide) ?_
      refine lv_aload_n C.1 C.2.1 dX6_version_88 rfl (lv_at hl 0 rfl) ?_
      refine x_get C Z 0 rfl rfl i_X6_X6_version (k := 0) (by decide) (List.mem_of_getElem? (i := 1) rfl) rfl dX6_version_89 ?_
      refine lv_iload_n C.1 C.2.1 dX6_version_92 rfl (lv_at hl 1 rfl) ?_
      obtain ⟨r37, hr37, h38⟩ := bd_some h35
      clear h35
      refine x_callV_i_Q (As := [.int (iI v1)]) (rest := []) (q0 := 0) (X2 := (wF g aF (aH 0) (aP 0) (aT 0) (aC 0) (aB 0) (aQ 0) (aU 0) (aV 0) (aS 0) (aR 0) sF ++ (wH g aH sH ++ (wP g aP sP ++ (wT g aT sT ++ (wC g aC (aK 0) rr sC ++ (wS g aK sK ++ (wB g aB sB ++ (wT g aQ sQ ++ (wT g aU sU ++ (wT g aV sV ++ (wS g aS sS ++ wS g aR sR)))))))))))) C Z fr_FHPTCKBQUVSR_1 (k_X2_depthOf l g n aH sH v1 r37 hr37) gX6_version_X2_depthOf yk_X2_depthOf ⟨Nat.le_of_ble_eq_true rfl, Nat.le_of_ble_eq_true rfl⟩ rfl rfl ⟨Nat.zero_le _, Nat.zero_le _⟩ hl.1 rfl (Nat.le_of_ble_eq_true rfl) rfl dX6_version_93 (fun H locs Z => ?_)
      have h39 := Option.some.inj h38
      subst h39
      exact hRet _ _ _ _ Z dX6_version_96
    have h36 := if_n h30 c34
    clear h30
    by_cases c40 : v2 = 5
    · have h41 := if_p h36 c40
      clear h36
      refine x_tin (tgt := 97) C dX6_version_14 q8 c40 (by decide) (by decide) (by rfl) (by decide) ?_
      refine lv_aload_n C.1 C.2.1 dX6_version_97 rfl (lv_at hl 0 rfl) ?_
      refine lv_iload_n C.1 C.2.1 dX6_version_98 rfl (lv_at hl 1 rfl) ?_
      refine x_iconst C dX6_version_99 ?_
      obtain ⟨r43, hr43, h44⟩ := bd_some h41
      clear h41
      refine x_callV_i_id (As := [.int (iI v1), .int (iI 0)]) (rest := []) (q0 := 0) C Z (k_X6_factorsOfOnly l g n aF aH aP aT aC aK aB aQ aU aV aS aR rr sF sH sP sT sC sK sB sQ sU sV sS sR v1 0 r43 hr43) gX6_version_X6_factorsOfOnly yk_X6_factorsOfOnly ⟨Nat.le_of_ble_eq_true rfl, Nat.le_of_ble_eq_true rfl⟩ rfl rfl ⟨Nat.zero_le _, Nat.zero_le _⟩ hl.1 rfl (Nat.le_of_ble_eq_true rfl) rfl dX6_version_100 (fun H locs Z => ?_)
      have h45 := Option.some.inj h44
      subst h45
      exact hRet _ _ _ _ Z dX6_version_103
    have h42 := if_n h36 c40
    clear h36
    refine x_tout (tgt := 104) C dX6_version_14 q8 (by omega) (by decide) ?_
    refine x_bipush C dX6_version_104 (by decide) ?_
    have h46 := Option.some.inj h42
    subst h46
    exact hRet _ _ _ _ Z dX6_version_106
  · have h7 := if_p h4 c5
    clear h4
    refine x_iconst C dX6_version_11 ?_
    have h47 := Option.some.inj h7
    subst h47
    exact hRet _ _ _ _ Z dX6_version_12
abbrev rmX2_latestCommon : Room := { frames := 2, cells := 0, slots := 0, locals := 42 }
theorem yk_X2_latestCommon : xY yX2_latestCommon RX2 cX2_latestCommon 6 (some .int) wsX2_latestCommon rmX2_latestCommon 2 := ⟨⟨_, rfl⟩, by decide +kernel, rfl, rfl⟩
theorem i_X2_X2_latestCommon : ∀ w ∈ u_ws RX2 TX2 5, w ∈ wsX2_latestCommon := fun _ h => List.mem_cons_of_mem _ (List.mem_append_right _ h)
set_option maxHeartbeats 4000000 in
set_option maxRecDepth 100000 in
theorem k_X2_latestCommon (l : Launch) (g : xG) (n : Nat) (aH : Nat → Nat) (sH : HisS) (v1 : Int) (v2 : Int) (r : Int) (hf : p_X2_latestCommon n sH v1 v2 = some r) : xMi l yX2_latestCommon wsX2_latestCommon rmX2_latestCommon g [.ref (aH 0), .int (iI v1), .int (iI v2)] (wH g aH sH) (wH g aH sH) r := by
  refine x_ofW_i (own := RX2) (by decide) rfl rfl (Nat.le_of_ble_eq_true rfl) ?_
  intro p e s m args below meth c ls A QQ C hRet Z hl
  have hl : lv_has ls 6 [(0, .ref (aH 0)), (1, .int (iI v1)), (2, .int (iI v2))] := hl
  unfold p_X2_latestCommon at hf
  refine lv_iload_n C.1 C.2.1 dX2_latestCommon_0 rfl (lv_at hl 1 rfl) ?_
  refine lv_istore_n (lv' := [(3, .int (iI v1)), (0, .ref (aH 0)), (1, .int (iI v1)), (2, .int (iI v2))]) C.1 C.2.1 dX2_latestCommon_1 rfl hl (by decide) rfl (fun ls hl => ?_)
  refine lv_iload_n C.1 C.2.1 dX2_latestCommon_2 rfl (lv_at hl 3 rfl) ?_
  refine lv_istore (lv' := [(4, .int (iI v2)), (3, .int (iI v1)), (0, .ref (aH 0)), (1, .int (iI v1)), (2, .int (iI v2))]) C.1 C.2.1 dX2_latestCommon_3 hl (by decide) rfl (fun ls hl => ?_)
  refine x_iconst C dX2_latestCommon_5 ?_
  refine lv_istore (lv' := [(5, .int (iI 0)), (4, .int (iI v2)), (3, .int (iI v1)), (0, .ref (aH 0)), (1, .int (iI v1)), (2, .int (iI v2))]) C.1 C.2.1 dX2_latestCommon_6 hl (by decide) rfl (fun ls hl => ?_)
  obtain ⟨ex8, hl8, h43⟩ := bd_some hf
  clear hf
  have hK8 : ∀ (H : Heap) (locs : List Loc) (ls : Array Slot), xSt g A s (wH g aH sH) H locs → lv_has ls 6 [(3, .int (iI ex8))] → W p l e rmX2_latestCommon s m args below meth c H locs 0 0 QQ (F0 m 51 ls []) := by
    intro H locs ls Z hl
    have h44 := h43
    clear h43
    refine lv_iload_n C.1 C.2.1 dX2_latestCommon_51 rfl (lv_at hl 0 rfl) ?_
    have h45 := Option.some.inj h44
    subst h45
    exact hRet _ _ _ _ Z dX2_latestCommon_52
  have hL8 : ∀ (k8 : Nat) (z8 : Int × Int × Int) (H : Heap) (locs : List Loc) (ls : Array Slot), lp (p_X2_latestCommon_b8 n sH) k8 z8 = some ex8 → xSt g A s (wH g aH sH) H locs → lv_has ls 6 [(0, .ref (aH 0)), (3, .int (iI z8.1)), (4, .int (iI z8.2.1)), (5, .int (iI z8.2.2))] → W p l e rmX2_latestCommon s m args below meth c H locs 0 0 QQ (F0 m 8 ls []) := by
    intro k8
    induction k8 with
    | zero => intro z8 H locs ls h; exact (lp_0 h).elim
    | succ k8 ih8 =>
      intro z8 H locs ls h Z hl
      obtain ⟨x8, hb8, hx8⟩ := lp_s h
      clear h
      unfold p_X2_latestCommon_b8 at hb8
      refine lv_iload C.1 C.2.1 dX2_latestCommon_8 (lv_at hl 3 rfl) ?_
      refine x_sipush C dX2_latestCommon_10 (by decide) ?_
      have q22 := (ck_some hb8).1
      have h23 := (ck_some hb8).2
      clear hb8
      refine x_icmp_ge (tgt := 51) C dX2_latestCommon_13 (by decide) q22 (by decide) (fun c24 => ?_) (fun c24 => ?_)
      · have h25 := if_n h23 c24
        clear h23
        cases h25
        have h27 := lp_R hx8
        subst h27
        exact hK8 _ _ _ Z (lv_sub hl [1] rfl)
      · have h26 := if_p h23 c24
        clear h23
        refine lv_iload_n C.1 C.2.1 dX2_latestCommon_16 rfl (lv_at hl 1 rfl) ?_
        refine lv_iload C.1 C.2.1 dX2_latestCommon_17 (lv_at hl 2 rfl) ?_
        have q28 := (ck_some h26).1
        have h29 := (ck_some h26).2
        clear h26
        have q30 := (ck_some h29).1
        have h31 := (ck_some h29).2
        clear h29
        refine x_icmp_eq (tgt := 51) C dX2_latestCommon_19 (by decide) q28 q30 (fun c32 => ?_) (fun c32 => ?_)
        · have h33 := if_p h31 c32
          clear h31
          cases h33
          have h35 := lp_R hx8
          subst h35
          exact hK8 _ _ _ Z (lv_sub hl [1] rfl)
        · have h34 := if_n h31 c32
          clear h31
          refine lv_iload_n C.1 C.2.1 dX2_latestCommon_22 rfl (lv_at hl 1 rfl) ?_
          refine lv_iload C.1 C.2.1 dX2_latestCommon_23 (lv_at hl 2 rfl) ?_
          refine x_icmp_le (tgt := 37) C dX2_latestCommon_25 (by decide) q28 q30 (fun c36 => ?_) (fun c36 => ?_)
          · have h37 := if_n h34 c36
            clear h34
            refine lv_aload_n C.1 C.2.1 dX2_latestCommon_37 rfl (lv_at hl 0 rfl) ?_
            refine lv_iload C.1 C.2.1 dX2_latestCommon_38 (lv_at hl 2 rfl) ?_
            obtain ⟨r39, hr39, h40⟩ := bd_some h37
            clear h37
            refine x_callV_i_id (As := [.int (iI z8.2.1)]) (rest := []) (q0 := 0) C Z (k_X2_parentOf l g n aH sH z8.2.1 r39 hr39) gX2_latestCommon_X2_parentOf yk_X2_parentOf ⟨Nat.le_of_ble_eq_true rfl, Nat.le_of_ble_eq_true rfl⟩ rfl rfl ⟨Nat.zero_le _, Nat.zero_le _⟩ hl.1 rfl (Nat.le_of_ble_eq_true rfl) rfl dX2_latestCommon_40 (fun H locs Z => ?_)
            refine lv_istore (lv' := [(4, .int (iI r39)), (0, .ref (aH 0)), (3, .int (iI z8.1)), (5, .int (iI z8.2.2))]) C.1 C.2.1 dX2_latestCommon_43 hl (by decide) rfl (fun ls hl => ?_)
            refine x_iinc (lv' := [(5, .int (iI (z8.2.2 + 1))), (4, .int (iI r39)), (0, .ref (aH 0)), (3, .int (iI z8.1))]) C dX2_latestCommon_45 hl (k := 3) rfl (by decide) rfl (fun ls hl => ?_)
            refine lv_goto (tgt := 8) C.1 C.2.1 dX2_latestCommon_48 (by decide) ?_
            cases h40
            exact ih8 (z8.1, r39, z8.2.2 + 1) _ _ _ (lp_L2 hx8) Z (lv_sub hl [2, 3, 1, 0] rfl)
          · have h38 := if_p h34 c36
            clear h34
            refine lv_aload_n C.1 C.2.1 dX2_latestCommon_28 rfl (lv_at hl 0 rfl) ?_
            refine lv_iload_n C.1 C.2.1 dX2_latestCommon_29 rfl (lv_at hl 1 rfl) ?_
            obtain ⟨r41, hr41, h42⟩ := bd_some h38
            clear h38
            refine x_callV_i_id (As := [.int (iI z8.1)]) (rest := []) (q0 := 0) C Z (k_X2_parentOf l g n aH sH z8.1 r41 hr41) gX2_latestCommon_X2_parentOf yk_X2_parentOf ⟨Nat.le_of_ble_eq_true rfl, Nat.le_of_ble_eq_true rfl⟩ rfl rfl ⟨Nat.zero_le _, Nat.zero_le _⟩ hl.1 rfl (Nat.le_of_ble_eq_true rfl) rfl dX2_latestCommon_30 (fun H locs Z => ?_)
            refine lv_istore_n (lv' := [(3, .int (iI r41)), (0, .ref (aH 0)), (4, .int (iI z8.2.1)), (5, .int (iI z8.2.2))]) C.1 C.2.1 dX2_latestCommon_33 rfl hl (by decide) rfl (fun ls hl => ?_)
            refine lv_goto (tgt := 45) C.1 C.2.1 dX2_latestCommon_34 (by decide) ?_
            refine x_iinc (lv' := [(5, .int (iI (z8.2.2 + 1))), (3, .int (iI r41)), (0, .ref (aH 0)), (4, .int (iI z8.2.1))]) C dX2_latestCommon_45 hl (k := 3) rfl (by decide) rfl (fun ls hl => ?_)
            refine lv_goto (tgt := 8) C.1 C.2.1 dX2_latestCommon_48 (by decide) ?_
            cases h42
            exact ih8 (r41, z8.2.1, z8.2.2 + 1) _ _ _ (lp_L2 hx8) Z (lv_sub hl [2, 1, 3, 0] rfl)
  exact hL8 n (v1, v2, 0) _ _ _ hl8 Z (lv_sub hl [3, 2, 1, 0] rfl)
abbrev rmX6_meet : Room := { frames := 3, cells := 0, slots := 0, locals := 67 }
theorem yk_X6_meet : xY yX6_meet RX6 cX6_meet 3 (some .int) wsX6_meet rmX6_meet 2 := ⟨⟨_, rfl⟩, by decide +kernel, rfl, rfl⟩
theorem i_X2_X6_meet : ∀ w ∈ u_ws RX2 TX2 5, w ∈ wsX6_meet := fun _ h => List.mem_cons_of_mem _ (List.mem_append_right _ h)
theorem i_X6_X6_meet : ∀ w ∈ u_ws RX6 TX6 11, w ∈ wsX6_meet := fun _ h => List.mem_cons_of_mem _ (List.mem_append_left _ (List.mem_append_right _ h))
set_option maxHeartbeats 4000000 in
set_option maxRecDepth 100000 in
theorem k_X6_meet (l : Launch) (g : xG) (n : Nat) (aF : Nat → Nat) (aH : Nat → Nat) (aP : Nat → Nat) (aT : Nat → Nat) (aC : Nat → Nat) (aK : Nat → Nat) (aB : Nat → Nat) (aQ : Nat → Nat) (aU : Nat → Nat) (aV : Nat → Nat) (aS : Nat → Nat) (aR : Nat → Nat) (rr : Nat → Nat) (sF : Int) (sH : HisS) (sP : PadS) (sT : TxtS) (sC : ClsS) (sK : SwpS) (sB : BegS) (sQ : TxtS) (sU : TxtS) (sV : TxtS) (sS : SwpS) (sR : SwpS) (v1 : Int) (v2 : Int) (r : Int) (hf : p_X6_meet n sH v1 v2 = some r) : xMi l yX6_meet wsX6_meet rmX6_meet g [.ref (aF 0), .int (iI v1), .int (iI v2)] ((wF g aF (aH 0) (aP 0) (aT 0) (aC 0) (aB 0) (aQ 0) (aU 0) (aV 0) (aS 0) (aR 0) sF ++ (wH g aH sH ++ (wP g aP sP ++ (wT g aT sT ++ (wC g aC (aK 0) rr sC ++ (wS g aK sK ++ (wB g aB sB ++ (wT g aQ sQ ++ (wT g aU sU ++ (wT g aV sV ++ (wS g aS sS ++ wS g aR sR))))))))))) ++ wR g rr sC.classOf) ((wF g aF (aH 0) (aP 0) (aT 0) (aC 0) (aB 0) (aQ 0) (aU 0) (aV 0) (aS 0) (aR 0) sF ++ (wH g aH sH ++ (wP g aP sP ++ (wT g aT sT ++ (wC g aC (aK 0) rr sC ++ (wS g aK sK ++ (wB g aB sB ++ (wT g aQ sQ ++ (wT g aU sU ++ (wT g aV sV ++ (wS g aS sS ++ wS g aR sR))))))))))) ++ wR g rr sC.classOf) r := by
  refine x_ofW_i (own := RX6) (by decide) rfl rfl (Nat.le_of_ble_eq_true rfl) ?_
  intro p e s m args below meth c ls A QQ C hRet Z hl
  have hl : lv_has ls 3 [(0, .ref (aF 0)), (1, .int (iI v1)), (2, .int (iI v2))] := hl
  unfold p_X6_meet at hf
  refine lv_aload_n C.1 C.2.1 dX6_meet_0 rfl (lv_at hl 0 rfl) ?_
  refine x_get C Z 0 rfl rfl i_X6_X6_meet (k := 0) (by decide) (List.mem_of_getElem? (i := 1) rfl) rfl dX6_meet_1 ?_
  refine lv_iload_n C.1 C.2.1 dX6_meet_4 rfl (lv_at hl 1 rfl) ?_
  obtain ⟨r1, hr1, h2⟩ := bd_some hf
  clear hf
  refine x_callV_i_Q (As := [.int (iI v1)]) (rest := []) (q0 := 0) (X2 := (wF g aF (aH 0) (aP 0) (aT 0) (aC 0) (aB 0) (aQ 0) (aU 0) (aV 0) (aS 0) (aR 0) sF ++ (wH g aH sH ++ (wP g aP sP ++ (wT g aT sT ++ (wC g aC (aK 0) rr sC ++ (wS g aK sK ++ (wB g aB sB ++ (wT g aQ sQ ++ (wT g aU sU ++ (wT g aV sV ++ (wS g aS sS ++ wS g aR sR)))))))))))) C Z fr_FHPTCKBQUVSR_1 (k_X2_has l g n aH sH v1 r1 hr1) gX6_meet_X2_has yk_X2_has ⟨Nat.le_of_ble_eq_true rfl, Nat.le_of_ble_eq_true rfl⟩ rfl rfl ⟨Nat.zero_le _, Nat.zero_le _⟩ hl.1 rfl (Nat.le_of_ble_eq_true rfl) rfl dX6_meet_5 (fun H locs Z => ?_)
  have q3 := (ck_some h2).1
  have h4 := (ck_some h2).2
  clear h2
  refine x_if_eq (tgt := 22) C dX6_meet_8 (by decide) q3 (fun c5 => ?_) (fun c5 => ?_)
  · have h6 := if_p h4 c5
    clear h4
    refine x_iconst C dX6_meet_22 ?_
    have h8 := Option.some.inj h6
    subst h8
    exact hRet _ _ _ _ Z dX6_meet_23
  · have h7 := if_n h4 c5
    clear h4
    refine lv_aload_n C.1 C.2.1 dX6_meet_11 rfl (lv_at hl 0 rfl) ?_
    refine x_get C Z 0 rfl rfl i_X6_X6_meet (k := 0) (by decide) (List.mem_of_getElem? (i := 1) rfl) rfl dX6_meet_12 ?_
    refine lv_iload_n C.1 C.2.1 dX6_meet_15 rfl (lv_at hl 2 rfl) ?_
    obtain ⟨r9, hr9, h10⟩ := bd_some h7
    clear h7
    refine x_callV_i_Q (As := [.int (iI v2)]) (rest := []) (q0 := 0) (X2 := (wF g aF (aH 0) (aP 0) (aT 0) (aC 0) (aB 0) (aQ 0) (aU 0) (aV 0) (aS 0) (aR 0) sF ++ (wH g aH sH ++ (wP g aP sP ++ (wT g aT sT ++ (wC g aC (aK 0) rr sC ++ (wS g aK sK ++ (wB g aB sB ++ (wT g aQ sQ ++ (wT g aU sU ++ (wT g aV sV ++ (wS g aS sS ++ wS g aR sR)))))))))))) C Z fr_FHPTCKBQUVSR_1 (k_X2_has l g n aH sH v2 r9 hr9) gX6_meet_X2_has yk_X2_has ⟨Nat.le_of_ble_eq_true rfl, Nat.le_of_ble_eq_true rfl⟩ rfl rfl ⟨Nat.zero_le _, Nat.zero_le _⟩ hl.1 rfl (Nat.le_of_ble_eq_true rfl) rfl dX6_meet_16 (fun H locs Z => ?_)
    have q11 := (ck_some h10).1
    have h12 := (ck_some h10).2
    clear h10
    refine x_if_ne (tgt := 24) C dX6_meet_19 (by decide) q11 (fun c13 => ?_) (fun c13 => ?_)
    · have h14 := if_n h12 c13
      clear h12
      refine lv_aload_n C.1 C.2.1 dX6_meet_24 rfl (lv_at hl 0 rfl) ?_
      refine x_get C Z 0 rfl rfl i_X6_X6_meet (k := 0) (by decide) (List.mem_of_getElem? (i := 1) rfl) rfl dX6_meet_25 ?_
      refine lv_iload_n C.1 C.2.1 dX6_meet_28 rfl (lv_at hl 1 rfl) ?_
      refine lv_iload_n C.1 C.2.1 dX6_meet_29 rfl (lv_at hl 2 rfl) ?_
      obtain ⟨r16, hr16, h17⟩ := bd_some h14
      clear h14
      refine x_callV_i_Q (As := [.int (iI v1), .int (iI v2)]) (rest := []) (q0 := 0) (X2 := (wF g aF (aH 0) (aP 0) (aT 0) (aC 0) (aB 0) (aQ 0) (aU 0) (aV 0) (aS 0) (aR 0) sF ++ (wH g aH sH ++ (wP g aP sP ++ (wT g aT sT ++ (wC g aC (aK 0) rr sC ++ (wS g aK sK ++ (wB g aB sB ++ (wT g aQ sQ ++ (wT g aU sU ++ (wT g aV sV ++ (wS g aS sS ++ wS g aR sR)))))))))))) C Z fr_FHPTCKBQUVSR_1 (k_X2_latestCommon l g n aH sH v1 v2 r16 hr16) gX6_meet_X2_latestCommon yk_X2_latestCommon ⟨Nat.le_of_ble_eq_true rfl, Nat.le_of_ble_eq_true rfl⟩ rfl rfl ⟨Nat.zero_le _, Nat.zero_le _⟩ hl.1 rfl (Nat.le_of_ble_eq_true rfl) rfl dX6_meet_30 (fun H locs Z => ?_)
      have h18 := Option.some.inj h17
      subst h18
      exact hRet _ _ _ _ Z dX6_meet_33
    · have h15 := if_p h12 c13
      clear h12
      refine x_iconst C dX6_meet_22 ?_
      have h19 := Option.some.inj h15
      subst h19
      exact hRet _ _ _ _ Z dX6_meet_23
abbrev rmX6_more : Room := { frames := 4, cells := 0, slots := 0, locals := 97 }
theorem yk_X6_more : xY yX6_more RX6 cX6_more 3 (some .int) wsX6_more rmX6_more 2 := ⟨⟨_, rfl⟩, by decide +kernel, rfl, rfl⟩
theorem i_X2_X6_more : ∀ w ∈ u_ws RX2 TX2 5, w ∈ wsX6_more := fun _ h => List.mem_cons_of_mem _ (List.mem_append_left _ (List.mem_append_left _ (List.mem_append_right _ h)))
theorem i_X4_X6_more : ∀ w ∈ u_ws RX4 TX4 1, w ∈ wsX6_more := fun _ h => List.mem_cons_of_mem _ (List.mem_append_right _ h)
theorem i_X5_X6_more : ∀ w ∈ u_ws RX5 TX5 8, w ∈ wsX6_more := fun _ h => List.mem_cons_of_mem _ (List.mem_append_left _ (List.mem_append_right _ h))
theorem i_X6_X6_more : ∀ w ∈ u_ws RX6 TX6 11, w ∈ wsX6_more := fun _ h => List.mem_cons_of_mem _ (List.mem_append_left _ (List.mem_append_left _ (List.mem_append_left _ (List.mem_append_right _ h))))
set_option maxHeartbeats 4000000 in
set_option maxRecDepth 100000 in
theorem k_X6_more (l : Launch) (g : xG) (n : Nat) (aF : Nat → Nat) (aH : Nat → Nat) (aP : Nat → Nat) (aT : Nat → Nat) (aC : Nat → Nat) (aK : Nat → Nat) (aB : Nat → Nat) (aQ : Nat → Nat) (aU : Nat → Nat) (aV : Nat → Nat) (aS : Nat → Nat) (aR : Nat → Nat) (rr : Nat → Nat) (sF : Int) (sH : HisS) (sP : PadS) (sT : TxtS) (sC : ClsS) (sK : SwpS) (sB : BegS) (sQ : TxtS) (sU : TxtS) (sV : TxtS) (sS : SwpS) (sR : SwpS) (v1 : Int) (v2 : Int) (r : Int × TxtS × TxtS × SwpS × SwpS) (hf : p_X6_more n sH sU sV sS sR v1 v2 = some r) : xMi l yX6_more wsX6_more rmX6_more g [.ref (aF 0), .int (iI v1), .int (iI v2)] ((wF g aF (aH 0) (aP 0) (aT 0) (aC 0) (aB 0) (aQ 0) (aU 0) (aV 0) (aS 0) (aR 0) sF ++ (wH g aH sH ++ (wP g aP sP ++ (wT g aT sT ++ (wC g aC (aK 0) rr sC ++ (wS g aK sK ++ (wB g aB sB ++ (wT g aQ sQ ++ (wT g aU sU ++ (wT g aV sV ++ (wS g aS sS ++ wS g aR sR))))))))))) ++ wR g rr sC.classOf) ((wF g aF (aH 0) (aP 0) (aT 0) (aC 0) (aB 0) (aQ 0) (aU 0) (aV 0) (aS 0) (aR 0) sF ++ (wH g aH sH ++ (wP g aP sP ++ (wT g aT sT ++ (wC g aC (aK 0) rr sC ++ (wS g aK sK ++ (wB g aB sB ++ (wT g aQ sQ ++ (wT g aU r.2.1 ++ (wT g aV r.2.2.1 ++ (wS g aS r.2.2.2.1 ++ wS g aR r.2.2.2.2))))))))))) ++ wR g rr sC.classOf) r.1 := by
  refine x_ofW_i (own := RX6) (by decide) rfl rfl (Nat.le_of_ble_eq_true rfl) ?_
  intro p e s m args below meth c ls A QQ C hRet Z hl
  have hl : lv_has ls 3 [(0, .ref (aF 0)), (1, .int (iI v1)), (2, .int (iI v2))] := hl
  unfold p_X6_more at hf
  refine lv_aload_n C.1 C.2.1 dX6_more_0 rfl (lv_at hl 0 rfl) ?_
  refine x_get C Z 0 rfl rfl i_X6_X6_more (k := 0) (by decide) (List.mem_of_getElem? (i := 1) rfl) rfl dX6_more_1 ?_
  refine lv_iload_n C.1 C.2.1 dX6_more_4 rfl (lv_at hl 1 rfl) ?_
  obtain ⟨r1, hr1, h2⟩ := bd_some hf
  clear hf
  refine x_callV_i_Q (As := [.int (iI v1)]) (rest := []) (q0 := 0) (X2 := (wF g aF (aH 0) (aP 0) (aT 0) (aC 0) (aB 0) (aQ 0) (aU 0) (aV 0) (aS 0) (aR 0) sF ++ (wH g aH sH ++ (wP g aP sP ++ (wT g aT sT ++ (wC g aC (aK 0) rr sC ++ (wS g aK sK ++ (wB g aB sB ++ (wT g aQ sQ ++ (wT g aU sU ++ (wT g aV sV ++ (wS g aS sS ++ wS g aR sR)))))))))))) C Z fr_FHPTCKBQUVSR_1 (k_X2_has l g n aH sH v1 r1 hr1) gX6_more_X2_has yk_X2_has ⟨Nat.le_of_ble_eq_true rfl, Nat.le_of_ble_eq_true rfl⟩ rfl rfl ⟨Nat.zero_le _, Nat.zero_le _⟩ hl.1 rfl (Nat.le_of_ble_eq_true rfl) rfl dX6_more_5 (fun H locs Z => ?_)
  have q3 := (ck_some h2).1
  have h4 := (ck_some h2).2
  clear h2
  refine x_if_eq (tgt := 22) C dX6_more_8 (by decide) q3 (fun c5 => ?_) (fun c5 => ?_)
  · have h6 := if_p h4 c5
    clear h4
    refine x_iconst C dX6_more_22 ?_
    have h8 := Option.some.inj h6
    subst h8
    exact hRet _ _ _ _ Z dX6_more_23
  · have h7 := if_n h4 c5
    clear h4
    refine lv_aload_n C.1 C.2.1 dX6_more_11 rfl (lv_at hl 0 rfl) ?_
    refine x_get C Z 0 rfl rfl i_X6_X6_more (k := 0) (by decide) (List.mem_of_getElem? (i := 1) rfl) rfl dX6_more_12 ?_
    refine lv_iload_n C.1 C.2.1 dX6_more_15 rfl (lv_at hl 2 rfl) ?_
    obtain ⟨r9, hr9, h10⟩ := bd_some h7
    clear h7
    refine x_callV_i_Q (As := [.int (iI v2)]) (rest := []) (q0 := 0) (X2 := (wF g aF (aH 0) (aP 0) (aT 0) (aC 0) (aB 0) (aQ 0) (aU 0) (aV 0) (aS 0) (aR 0) sF ++ (wH g aH sH ++ (wP g aP sP ++ (wT g aT sT ++ (wC g aC (aK 0) rr sC ++ (wS g aK sK ++ (wB g aB sB ++ (wT g aQ sQ ++ (wT g aU sU ++ (wT g aV sV ++ (wS g aS sS ++ wS g aR sR)))))))))))) C Z fr_FHPTCKBQUVSR_1 (k_X2_has l g n aH sH v2 r9 hr9) gX6_more_X2_has yk_X2_has ⟨Nat.le_of_ble_eq_true rfl, Nat.le_of_ble_eq_true rfl⟩ rfl rfl ⟨Nat.zero_le _, Nat.zero_le _⟩ hl.1 rfl (Nat.le_of_ble_eq_true rfl) rfl dX6_more_16 (fun H locs Z => ?_)
    have q11 := (ck_some h10).1
    have h12 := (ck_some h10).2
    clear h10
    refine x_if_ne (tgt := 24) C dX6_more_19 (by decide) q11 (fun c13 => ?_) (fun c13 => ?_)
    · have h14 := if_n h12 c13
      clear h12
      refine lv_aload_n C.1 C.2.1 dX6_more_24 rfl (lv_at hl 0 rfl) ?_
      refine lv_iload_n C.1 C.2.1 dX6_more_25 rfl (lv_at hl 1 rfl) ?_
      refine lv_iload_n C.1 C.2.1 dX6_more_26 rfl (lv_at hl 2 rfl) ?_
      obtain ⟨r16, hr16, h17⟩ := bd_some h14
      clear h14
      refine x_callV_i_id (As := [.int (iI v1), .int (iI v2)]) (rest := []) (q0 := 0) C Z (k_X6_factorsOfOnly l g n aF aH aP aT aC aK aB aQ aU aV aS aR rr sF sH sP sT sC sK sB sQ sU sV sS sR v1 v2 r16 hr16) gX6_more_X6_factorsOfOnly yk_X6_factorsOfOnly ⟨Nat.le_of_ble_eq_true rfl, Nat.le_of_ble_eq_true rfl⟩ rfl rfl ⟨Nat.zero_le _, Nat.zero_le _⟩ hl.1 rfl (Nat.le_of_ble_eq_true rfl) rfl dX6_more_27 (fun H locs Z => ?_)
      have h18 := Option.some.inj h17
      subst h18
      exact hRet _ _ _ _ Z dX6_more_30
    · have h15 := if_p h12 c13
      clear h12
      refine x_iconst C dX6_more_22 ?_
      have h19 := Option.some.inj h15
      subst h19
      exact hRet _ _ _ _ Z dX6_more_23
abbrev rmX6_showPresent : Room := { frames := 3, cells := 0, slots := 0, locals := 69 }
theorem yk_X6_showPresent : xY yX6_showPresent RX6 cX6_showPresent 1 none wsX6_showPresent rmX6_showPresent 0 := ⟨⟨_, rfl⟩, by decide +kernel, rfl, rfl⟩
theorem i_X2_X6_showPresent : ∀ w ∈ u_ws RX2 TX2 5, w ∈ wsX6_showPresent := fun _ h => List.mem_cons_of_mem _ (List.mem_append_right _ h)
theorem i_X5_X6_showPresent : ∀ w ∈ u_ws RX5 TX5 8, w ∈ wsX6_showPresent := fun _ h => List.mem_cons_of_mem _ (List.mem_append_left _ (List.mem_append_right _ h))
theorem i_X6_X6_showPresent : ∀ w ∈ u_ws RX6 TX6 11, w ∈ wsX6_showPresent := fun _ h => List.mem_cons_of_mem _ (List.mem_append_left _ (List.mem_append_left _ (List.mem_append_right _ h)))
set_option maxHeartbeats 4000000 in
set_option maxRecDepth 100000 in
theorem k_X6_showPresent (l : Launch) (g : xG) (n : Nat) (aF : Nat → Nat) (aH : Nat → Nat) (aP : Nat → Nat) (aT : Nat → Nat) (aC : Nat → Nat) (aK : Nat → Nat) (aB : Nat → Nat) (aQ : Nat → Nat) (aU : Nat → Nat) (aV : Nat → Nat) (aS : Nat → Nat) (aR : Nat → Nat) (rr : Nat → Nat) (sF : Int) (sH : HisS) (sP : PadS) (sT : TxtS) (sC : ClsS) (sK : SwpS) (sB : BegS) (sQ : TxtS) (sU : TxtS) (sV : TxtS) (sS : SwpS) (sR : SwpS) (r : TxtS) (hf : p_X6_showPresent n sF sH sT = some r) : xMv l yX6_showPresent wsX6_showPresent rmX6_showPresent g [.ref (aF 0)] ((wF g aF (aH 0) (aP 0) (aT 0) (aC 0) (aB 0) (aQ 0) (aU 0) (aV 0) (aS 0) (aR 0) sF ++ (wH g aH sH ++ (wP g aP sP ++ (wT g aT sT ++ (wC g aC (aK 0) rr sC ++ (wS g aK sK ++ (wB g aB sB ++ (wT g aQ sQ ++ (wT g aU sU ++ (wT g aV sV ++ (wS g aS sS ++ wS g aR sR))))))))))) ++ wR g rr sC.classOf) ((wF g aF (aH 0) (aP 0) (aT 0) (aC 0) (aB 0) (aQ 0) (aU 0) (aV 0) (aS 0) (aR 0) sF ++ (wH g aH sH ++ (wP g aP sP ++ (wT g aT r ++ (wC g aC (aK 0) rr sC ++ (wS g aK sK ++ (wB g aB sB ++ (wT g aQ sQ ++ (wT g aU sU ++ (wT g aV sV ++ (wS g aS sS ++ wS g aR sR))))))))))) ++ wR g rr sC.classOf) := by
  refine x_ofW_v (own := RX6) (by decide) rfl rfl (Nat.le_of_ble_eq_true rfl) ?_
  intro p e s m args below meth c ls A QQ C hRet Z hl
  have hl : lv_has ls 1 [(0, .ref (aF 0))] := hl
  unfold p_X6_showPresent at hf
  refine lv_aload_n C.1 C.2.1 dX6_showPresent_0 rfl (lv_at hl 0 rfl) ?_
  refine x_get C Z 0 rfl rfl i_X6_X6_showPresent (k := 2) (by decide) (List.mem_of_getElem? (i := 1) rfl) rfl dX6_showPresent_1 ?_
  refine lv_aload_n C.1 C.2.1 dX6_showPresent_4 rfl (lv_at hl 0 rfl) ?_
  refine x_get C Z 0 rfl rfl i_X6_X6_showPresent (k := 0) (by decide) (List.mem_of_getElem? (i := 2) rfl) rfl dX6_showPresent_5 ?_
  refine lv_aload_n C.1 C.2.1 dX6_showPresent_8 rfl (lv_at hl 0 rfl) ?_
  refine x_get C Z 0 rfl rfl i_X6_X6_showPresent (k := 10) (by decide) (List.mem_of_getElem? (i := 3) rfl) rfl dX6_showPresent_9 ?_
  obtain ⟨r1, hr1, h2⟩ := bd_some hf
  clear hf
  refine x_callV_v_Q (As := [.ref (aH 0), .int (iI sF)]) (rest := []) (q0 := 0) (X2 := (wF g aF (aH 0) (aP 0) (aT 0) (aC 0) (aB 0) (aQ 0) (aU 0) (aV 0) (aS 0) (aR 0) sF ++ (wH g aH sH ++ (wP g aP sP ++ (wT g aT r1 ++ (wC g aC (aK 0) rr sC ++ (wS g aK sK ++ (wB g aB sB ++ (wT g aQ sQ ++ (wT g aU sU ++ (wT g aV sV ++ (wS g aS sS ++ wS g aR sR)))))))))))) C Z fr_FHPTCKBQUVSR_3_1 (k_X5_takeVersion l g n aT aH sT sH sF r1 hr1) gX6_showPresent_X5_takeVersion yk_X5_takeVersion ⟨Nat.le_of_ble_eq_true rfl, Nat.le_of_ble_eq_true rfl⟩ rfl rfl ⟨Nat.zero_le _, Nat.zero_le _⟩ hl.1 rfl (Nat.le_of_ble_eq_true rfl) rfl dX6_showPresent_12 (fun H locs Z => ?_)
  have h3 := Option.some.inj h2
  subst h3
  exact hRet _ _ _ _ Z dX6_showPresent_15
abbrev rmX5_wordCount : Room := { frames := 0, cells := 0, slots := 0, locals := 0 }
theorem yk_X5_wordCount : xY yX5_wordCount RX5 cX5_wordCount 1 (some .int) wsX5_wordCount rmX5_wordCount 0 := ⟨⟨_, rfl⟩, by decide +kernel, rfl, rfl⟩
theorem i_X5_X5_wordCount : ∀ w ∈ u_ws RX5 TX5 8, w ∈ wsX5_wordCount := fun _ h => List.mem_cons_of_mem _ (List.mem_append_right _ h)
set_option maxHeartbeats 4000000 in
set_option maxRecDepth 100000 in
theorem k_X5_wordCount (l : Launch) (g : xG) (n : Nat) (aT : Nat → Nat) (sT : TxtS) (r : Int) (hf : p_X5_wordCount sT = some r) : xMi l yX5_wordCount wsX5_wordCount rmX5_wordCount g [.ref (aT 0)] (wT g aT sT) (wT g aT sT) r := by
  refine x_ofW_i (own := RX5) (by decide) rfl rfl (Nat.le_of_ble_eq_true rfl) ?_
  intro p e s m args below meth c ls A QQ C hRet Z hl
  have hl : lv_has ls 1 [(0, .ref (aT 0))] := hl
  unfold p_X5_wordCount at hf
  refine lv_aload_n C.1 C.2.1 dX5_wordCount_0 rfl (lv_at hl 0 rfl) ?_
  refine x_get C Z 0 rfl rfl i_X5_X5_wordCount (k := 5) (by decide) (List.mem_of_getElem? (i := 1) rfl) rfl dX5_wordCount_1 ?_
  have h1 := Option.some.inj hf
  subst h1
  exact hRet _ _ _ _ Z dX5_wordCount_4
abbrev rmX6_letter : Room := { frames := 4, cells := 0, slots := 0, locals := 89 }
theorem yk_X6_letter : xY yX6_letter RX6 cX6_letter 4 (some .int) wsX6_letter rmX6_letter 2 := ⟨⟨_, rfl⟩, by decide +kernel, rfl, rfl⟩
theorem i_X2_X6_letter : ∀ w ∈ u_ws RX2 TX2 5, w ∈ wsX6_letter := fun _ h => List.mem_cons_of_mem _ (List.mem_append_right _ h)
theorem i_X5_X6_letter : ∀ w ∈ u_ws RX5 TX5 8, w ∈ wsX6_letter := fun _ h => List.mem_cons_of_mem _ (List.mem_append_left _ (List.mem_append_right _ h))
theorem i_X6_X6_letter : ∀ w ∈ u_ws RX6 TX6 11, w ∈ wsX6_letter := fun _ h => List.mem_cons_of_mem _ (List.mem_append_left _ (List.mem_append_left _ (List.mem_append_right _ h)))
set_option maxHeartbeats 4000000 in
set_option maxRecDepth 100000 in
theorem k_X6_letter (l : Launch) (g : xG) (n : Nat) (aF : Nat → Nat) (aH : Nat → Nat) (aP : Nat → Nat) (aT : Nat → Nat) (aC : Nat → Nat) (aK : Nat → Nat) (aB : Nat → Nat) (aQ : Nat → Nat) (aU : Nat → Nat) (aV : Nat → Nat) (aS : Nat → Nat) (aR : Nat → Nat) (rr : Nat → Nat) (sF : Int) (sH : HisS) (sP : PadS) (sT : TxtS) (sC : ClsS) (sK : SwpS) (sB : BegS) (sQ : TxtS) (sU : TxtS) (sV : TxtS) (sS : SwpS) (sR : SwpS) (v1 : Int) (v2 : Int) (r : Int × TxtS) (hf : p_X6_letter n sF sH sT v1 v2 = some r) : xMi l yX6_letter wsX6_letter rmX6_letter g [.ref (aF 0), .int (iI v1), .int (iI v2)] ((wF g aF (aH 0) (aP 0) (aT 0) (aC 0) (aB 0) (aQ 0) (aU 0) (aV 0) (aS 0) (aR 0) sF ++ (wH g aH sH ++ (wP g aP sP ++ (wT g aT sT ++ (wC g aC (aK 0) rr sC ++ (wS g aK sK ++ (wB g aB sB ++ (wT g aQ sQ ++ (wT g aU sU ++ (wT g aV sV ++ (wS g aS sS ++ wS g aR sR))))))))))) ++ wR g rr sC.classOf) ((wF g aF (aH 0) (aP 0) (aT 0) (aC 0) (aB 0) (aQ 0) (aU 0) (aV 0) (aS 0) (aR 0) sF ++ (wH g aH sH ++ (wP g aP sP ++ (wT g aT r.2 ++ (wC g aC (aK 0) rr sC ++ (wS g aK sK ++ (wB g aB sB ++ (wT g aQ sQ ++ (wT g aU sU ++ (wT g aV sV ++ (wS g aS sS ++ wS g aR sR))))))))))) ++ wR g rr sC.classOf) r.1 := by
  refine x_ofW_i (own := RX6) (by decide) rfl rfl (Nat.le_of_ble_eq_true rfl) ?_
  intro p e s m args below meth c ls A QQ C hRet Z hl
  have hl : lv_has ls 4 [(0, .ref (aF 0)), (1, .int (iI v1)), (2, .int (iI v2))] := hl
  unfold p_X6_letter at hf
  refine lv_aload_n C.1 C.2.1 dX6_letter_0 rfl (lv_at hl 0 rfl) ?_
  obtain ⟨r1, hr1, h2⟩ := bd_some hf
  clear hf
  refine x_callV_v_id (As := []) (rest := []) (q0 := 0) C Z (k_X6_showPresent l g n aF aH aP aT aC aK aB aQ aU aV aS aR rr sF sH sP sT sC sK sB sQ sU sV sS sR r1 hr1) gX6_letter_X6_showPresent yk_X6_showPresent ⟨Nat.le_of_ble_eq_true rfl, Nat.le_of_ble_eq_true rfl⟩ rfl rfl ⟨Nat.zero_le _, Nat.zero_le _⟩ hl.1 rfl (Nat.le_of_ble_eq_true rfl) rfl dX6_letter_1 (fun H locs Z => ?_)
  refine lv_iload_n C.1 C.2.1 dX6_letter_4 rfl (lv_at hl 1 rfl) ?_
  have q3 := (ck_some h2).1
  have h4 := (ck_some h2).2
  clear h2
  refine x_if_lt (tgt := 19) C dX6_letter_5 (by decide) q3 (fun c5 => ?_) (fun c5 => ?_)
  · have h6 := if_p h4 c5
    clear h4
    refine x_iconst C dX6_letter_19 ?_
    have h8 := Option.some.inj h6
    subst h8
    exact hRet _ _ _ _ Z dX6_letter_20
  · have h7 := if_n h4 c5
    clear h4
    refine lv_iload_n C.1 C.2.1 dX6_letter_8 rfl (lv_at hl 1 rfl) ?_
    refine lv_aload_n C.1 C.2.1 dX6_letter_9 rfl (lv_at hl 0 rfl) ?_
    refine x_get C Z 0 rfl rfl i_X6_X6_letter (k := 2) (by decide) (List.mem_of_getElem? (i := 1) rfl) rfl dX6_letter_10 ?_
    obtain ⟨r9, hr9, h10⟩ := bd_some h7
    clear h7
    refine x_callV_i_Q (As := []) (rest := [.int (iI v1)]) (q0 := 0) (X2 := (wF g aF (aH 0) (aP 0) (aT 0) (aC 0) (aB 0) (aQ 0) (aU 0) (aV 0) (aS 0) (aR 0) sF ++ (wH g aH sH ++ (wP g aP sP ++ (wT g aT r1 ++ (wC g aC (aK 0) rr sC ++ (wS g aK sK ++ (wB g aB sB ++ (wT g aQ sQ ++ (wT g aU sU ++ (wT g aV sV ++ (wS g aS sS ++ wS g aR sR)))))))))))) C Z fr_FHPTCKBQUVSR_3 (k_X5_wordCount l g n aT r1 r9 hr9) gX6_letter_X5_wordCount yk_X5_wordCount ⟨Nat.le_of_ble_eq_true rfl, Nat.le_of_ble_eq_true rfl⟩ rfl rfl ⟨Nat.zero_le _, Nat.zero_le _⟩ hl.1 rfl (Nat.le_of_ble_eq_true rfl) rfl dX6_letter_13 (fun H locs Z => ?_)
    have q11 := (ck_some h10).1
    have h12 := (ck_some h10).2
    clear h10
    refine x_icmp_lt (tgt := 21) C dX6_letter_16 (by decide) q3 q11 (fun c13 => ?_) (fun c13 => ?_)
    · have h14 := if_p h12 c13
      clear h12
      refine lv_aload_n C.1 C.2.1 dX6_letter_21 rfl (lv_at hl 0 rfl) ?_
      refine x_get C Z 0 rfl rfl i_X6_X6_letter (k := 2) (by decide) (List.mem_of_getElem? (i := 1) rfl) rfl dX6_letter_22 ?_
      refine lv_iload_n C.1 C.2.1 dX6_letter_25 rfl (lv_at hl 1 rfl) ?_
      obtain ⟨r16, hr16, h17⟩ := bd_some h14
      clear h14
      refine x_callV_i_Q (As := [.int (iI v1)]) (rest := []) (q0 := 0) (X2 := (wF g aF (aH 0) (aP 0) (aT 0) (aC 0) (aB 0) (aQ 0) (aU 0) (aV 0) (aS 0) (aR 0) sF ++ (wH g aH sH ++ (wP g aP sP ++ (wT g aT r1 ++ (wC g aC (aK 0) rr sC ++ (wS g aK sK ++ (wB g aB sB ++ (wT g aQ sQ ++ (wT g aU sU ++ (wT g aV sV ++ (wS g aS sS ++ wS g aR sR)))))))))))) C Z fr_FHPTCKBQUVSR_3 (k_X5_wordEnd l g n aT r1 v1 r16 hr16) gX6_letter_X5_wordEnd yk_X5_wordEnd ⟨Nat.le_of_ble_eq_true rfl, Nat.le_of_ble_eq_true rfl⟩ rfl rfl ⟨Nat.zero_le _, Nat.zero_le _⟩ hl.1 rfl (Nat.le_of_ble_eq_true rfl) rfl dX6_letter_26 (fun H locs Z => ?_)
      refine lv_aload_n C.1 C.2.1 dX6_letter_29 rfl (lv_at hl 0 rfl) ?_
      refine x_get C Z 0 rfl rfl i_X6_X6_letter (k := 2) (by decide) (List.mem_of_getElem? (i := 1) rfl) rfl dX6_letter_30 ?_
      refine lv_iload_n C.1 C.2.1 dX6_letter_33 rfl (lv_at hl 1 rfl) ?_
      obtain ⟨r18, hr18, h19⟩ := bd_some h17
      clear h17
      refine x_callV_i_Q (As := [.int (iI v1)]) (rest := [.int (iI r16)]) (q0 := 0) (X2 := (wF g aF (aH 0) (aP 0) (aT 0) (aC 0) (aB 0) (aQ 0) (aU 0) (aV 0) (aS 0) (aR 0) sF ++ (wH g aH sH ++ (wP g aP sP ++ (wT g aT r1 ++ (wC g aC (aK 0) rr sC ++ (wS g aK sK ++ (wB g aB sB ++ (wT g aQ sQ ++ (wT g aU sU ++ (wT g aV sV ++ (wS g aS sS ++ wS g aR sR)))))))))))) C Z fr_FHPTCKBQUVSR_3 (k_X5_wordStart l g n aT r1 v1 r18 hr18) gX6_letter_X5_wordStart yk_X5_wordStart ⟨Nat.le_of_ble_eq_true rfl, Nat.le_of_ble_eq_true rfl⟩ rfl rfl ⟨Nat.zero_le _, Nat.zero_le _⟩ hl.1 rfl (Nat.le_of_ble_eq_true rfl) rfl dX6_letter_34 (fun H locs Z => ?_)
      refine x_isub C dX6_letter_37 ?_
      refine lv_istore_n (lv' := [(3, .int (iI (r16 - r18))), (0, .ref (aF 0)), (1, .int (iI v1)), (2, .int (iI v2))]) C.1 C.2.1 dX6_letter_38 rfl hl (by decide) rfl (fun ls hl => ?_)
      refine lv_iload_n C.1 C.2.1 dX6_letter_39 rfl (lv_at hl 3 rfl) ?_
      refine x_iconst C dX6_letter_40 ?_
      have q20 := (ck_some h19).1
      have h21 := (ck_some h19).2
      clear h19
      refine x_icmp_ne (tgt := 46) C dX6_letter_41 (by decide) q20 (by decide) (fun c22 => ?_) (fun c22 => ?_)
      · have h23 := if_n h21 c22
        clear h21
        refine lv_iload_n C.1 C.2.1 dX6_letter_46 rfl (lv_at hl 3 rfl) ?_
        refine x_if_lt (tgt := 55) C dX6_letter_47 (by decide) q20 (fun c25 => ?_) (fun c25 => ?_)
        · have h26 := if_p h23 c25
          clear h23
          refine x_bipush C dX6_letter_55 (by decide) ?_
          have h28 := Option.some.inj h26
          subst h28
          exact hRet _ _ _ _ Z dX6_letter_57
        · have h27 := if_n h23 c25
          clear h23
          refine lv_iload_n C.1 C.2.1 dX6_letter_50 rfl (lv_at hl 3 rfl) ?_
          refine lv_iload_n C.1 C.2.1 dX6_letter_51 rfl (lv_at hl 0 rfl) ?_
          have q29 := (ck_some h27).1
          have h30 := (ck_some h27).2
          clear h27
          refine x_icmp_lt (tgt := 58) C dX6_letter_52 (by decide) q20 q29 (fun c31 => ?_) (fun c31 => ?_)
          · have h32 := if_p h30 c31
            clear h30
            refine lv_aload_n C.1 C.2.1 dX6_letter_58 rfl (lv_at hl 1 rfl) ?_
            refine x_get C Z 0 rfl rfl i_X6_X6_letter (k := 2) (by decide) (List.mem_of_getElem? (i := 1) rfl) rfl dX6_letter_59 ?_
            refine lv_aload_n C.1 C.2.1 dX6_letter_62 rfl (lv_at hl 1 rfl) ?_
            refine x_get C Z 0 rfl rfl i_X6_X6_letter (k := 2) (by decide) (List.mem_of_getElem? (i := 1) rfl) rfl dX6_letter_63 ?_
            refine lv_iload_n C.1 C.2.1 dX6_letter_66 rfl (lv_at hl 2 rfl) ?_
            obtain ⟨r34, hr34, h35⟩ := bd_some h32
            clear h32
            refine x_callV_i_Q (As := [.int (iI v1)]) (rest := [.ref (aT 0)]) (q0 := 0) (X2 := (wF g aF (aH 0) (aP 0) (aT 0) (aC 0) (aB 0) (aQ 0) (aU 0) (aV 0) (aS 0) (aR 0) sF ++ (wH g aH sH ++ (wP g aP sP ++ (wT g aT r1 ++ (wC g aC (aK 0) rr sC ++ (wS g aK sK ++ (wB g aB sB ++ (wT g aQ sQ ++ (wT g aU sU ++ (wT g aV sV ++ (wS g aS sS ++ wS g aR sR)))))))))))) C Z fr_FHPTCKBQUVSR_3 (k_X5_wordStart l g n aT r1 v1 r34 hr34) gX6_letter_X5_wordStart yk_X5_wordStart ⟨Nat.le_of_ble_eq_true rfl, Nat.le_of_ble_eq_true rfl⟩ rfl rfl ⟨Nat.zero_le _, Nat.zero_le _⟩ hl.1 rfl (Nat.le_of_ble_eq_true rfl) rfl dX6_letter_67 (fun H locs Z => ?_)
            refine lv_iload_n C.1 C.2.1 dX6_letter_70 rfl (lv_at hl 3 rfl) ?_
            refine x_iadd C dX6_letter_71 ?_
            obtain ⟨r36, hr36, h37⟩ := bd_some h35
            clear h35
            refine x_callV_i_Q (As := [.int (iI (r34 + v2))]) (rest := []) (q0 := 0) (X2 := (wF g aF (aH 0) (aP 0) (aT 0) (aC 0) (aB 0) (aQ 0) (aU 0) (aV 0) (aS 0) (aR 0) sF ++ (wH g aH sH ++ (wP g aP sP ++ (wT g aT r1 ++ (wC g aC (aK 0) rr sC ++ (wS g aK sK ++ (wB g aB sB ++ (wT g aQ sQ ++ (wT g aU sU ++ (wT g aV sV ++ (wS g aS sS ++ wS g aR sR)))))))))))) C Z fr_FHPTCKBQUVSR_3 (k_X5_letterAt l g n aT r1 (r34 + v2) r36 hr36) gX6_letter_X5_letterAt yk_X5_letterAt ⟨Nat.le_of_ble_eq_true rfl, Nat.le_of_ble_eq_true rfl⟩ rfl rfl ⟨Nat.zero_le _, Nat.zero_le _⟩ hl.1 rfl (Nat.le_of_ble_eq_true rfl) rfl dX6_letter_72 (fun H locs Z => ?_)
            have h38 := Option.some.inj h37
            subst h38
            exact hRet _ _ _ _ Z dX6_letter_75
          · have h33 := if_n h30 c31
            clear h30
            refine x_bipush C dX6_letter_55 (by decide) ?_
            have h39 := Option.some.inj h33
            subst h39
            exact hRet _ _ _ _ Z dX6_letter_57
      · have h24 := if_p h21 c22
        clear h21
        refine lv_iload_n C.1 C.2.1 dX6_letter_44 rfl (lv_at hl 0 rfl) ?_
        have h40 := Option.some.inj h24
        subst h40
        exact hRet _ _ _ _ Z dX6_letter_45
    · have h15 := if_n h12 c13
      clear h12
      refine x_iconst C dX6_letter_19 ?_
      have h41 := Option.some.inj h15
      subst h41
      exact hRet _ _ _ _ Z dX6_letter_20
abbrev rmX3_add : Room := { frames := 0, cells := 0, slots := 0, locals := 0 }
theorem yk_X3_add : xY yX3_add RX3 cX3_add 2 none wsX3_add rmX3_add 1 := ⟨⟨_, rfl⟩, by decide +kernel, rfl, rfl⟩
theorem i_X3_X3_add : ∀ w ∈ u_ws RX3 TX3 2, w ∈ wsX3_add := fun _ h => List.mem_cons_of_mem _ (List.mem_append_right _ h)
set_option maxHeartbeats 4000000 in
set_option maxRecDepth 100000 in
theorem k_X3_add (l : Launch) (g : xG) (n : Nat) (aP : Nat → Nat) (sP : PadS) (v1 : Int) (r : PadS) (hf : p_X3_add sP v1 = some r) : xMv l yX3_add wsX3_add rmX3_add g [.ref (aP 0), .int (iI v1)] (wP g aP sP) (wP g aP r) := by
  refine x_ofW_v (own := RX3) (by decide) rfl rfl (Nat.le_of_ble_eq_true rfl) ?_
  intro p e s m args below meth c ls A QQ C hRet Z hl
  have hl : lv_has ls 2 [(0, .ref (aP 0)), (1, .int (iI v1))] := hl
  unfold p_X3_add at hf
  refine lv_aload_n C.1 C.2.1 dX3_add_0 rfl (lv_at hl 0 rfl) ?_
  refine x_get C Z 0 rfl rfl i_X3_X3_add (k := 1) (by decide) (List.mem_of_getElem? (i := 1) rfl) rfl dX3_add_1 ?_
  refine x_bipush C dX3_add_4 (by decide) ?_
  have q1 := (ck_some hf).1
  have h2 := (ck_some hf).2
  clear hf
  refine x_icmp_ge (tgt := 29) C dX3_add_6 (by decide) q1 (by decide) (fun c3 => ?_) (fun c3 => ?_)
  · have h4 := if_n h2 c3
    clear h2
    have h6 := Option.some.inj h4
    subst h6
    exact hRet _ _ _ _ Z dX3_add_29
  · have h5 := if_p h2 c3
    clear h2
    refine lv_aload_n C.1 C.2.1 dX3_add_9 rfl (lv_at hl 0 rfl) ?_
    refine x_get C Z 0 rfl rfl i_X3_X3_add (k := 0) (by decide) (List.mem_of_getElem? (i := 2) rfl) rfl dX3_add_10 ?_
    refine lv_aload_n C.1 C.2.1 dX3_add_13 rfl (lv_at hl 0 rfl) ?_
    refine x_get C Z 0 rfl rfl i_X3_X3_add (k := 1) (by decide) (List.mem_of_getElem? (i := 1) rfl) rfl dX3_add_14 ?_
    refine lv_iload_n C.1 C.2.1 dX3_add_17 rfl (lv_at hl 1 rfl) ?_
    have q7 := (ix_some h5).1
    have h8 := (ix_some h5).2
    clear h5
    refine x_iast (ws2 := wP g aP (up sP.characters sP.size v1, sP.size)) C Z 1 rfl (by decide) q7 dX3_add_18 rfl (fun H locs Z => ?_)
    refine lv_aload_n C.1 C.2.1 dX3_add_19 rfl (lv_at hl 0 rfl) ?_
    refine lv_dup C.1 C.2.1 dX3_add_20 rfl ?_
    refine x_get C Z 0 rfl rfl i_X3_X3_add (k := 1) (by decide) (List.mem_of_getElem? (i := 1) rfl) rfl dX3_add_21 ?_
    refine x_iconst C dX3_add_24 ?_
    refine x_iadd C dX3_add_25 ?_
    refine x_put (ws2 := wP g aP (up sP.characters sP.size v1, sP.size + 1)) C Z 0 rfl rfl i_X3_X3_add tyX3_ok nmX3 (k := 1) (by decide) (List.mem_of_getElem? (i := 1) rfl) rfl rfl (Nat.le_of_ble_eq_true rfl) dX3_add_26 rfl (fun H locs Z => ?_)
    have h9 := Option.some.inj h8
    subst h9
    exact hRet _ _ _ _ Z dX3_add_29
abbrev rmX6_say : Room := { frames := 1, cells := 0, slots := 0, locals := 21 }
theorem yk_X6_say : xY yX6_say RX6 cX6_say 2 (some .int) wsX6_say rmX6_say 1 := ⟨⟨_, rfl⟩, by decide +kernel, rfl, rfl⟩
theorem i_X3_X6_say : ∀ w ∈ u_ws RX3 TX3 2, w ∈ wsX6_say := fun _ h => List.mem_cons_of_mem _ (List.mem_append_right _ h)
theorem i_X6_X6_say : ∀ w ∈ u_ws RX6 TX6 11, w ∈ wsX6_say := fun _ h => List.mem_cons_of_mem _ (List.mem_append_left _ (List.mem_append_right _ h))
set_option maxHeartbeats 4000000 in
set_option maxRecDepth 100000 in
theorem k_X6_say (l : Launch) (g : xG) (n : Nat) (aF : Nat → Nat) (aH : Nat → Nat) (aP : Nat → Nat) (aT : Nat → Nat) (aC : Nat → Nat) (aK : Nat → Nat) (aB : Nat → Nat) (aQ : Nat → Nat) (aU : Nat → Nat) (aV : Nat → Nat) (aS : Nat → Nat) (aR : Nat → Nat) (rr : Nat → Nat) (sF : Int) (sH : HisS) (sP : PadS) (sT : TxtS) (sC : ClsS) (sK : SwpS) (sB : BegS) (sQ : TxtS) (sU : TxtS) (sV : TxtS) (sS : SwpS) (sR : SwpS) (v1 : Int) (r : Int × PadS) (hf : p_X6_say sP v1 = some r) : xMi l yX6_say wsX6_say rmX6_say g [.ref (aF 0), .int (iI v1)] ((wF g aF (aH 0) (aP 0) (aT 0) (aC 0) (aB 0) (aQ 0) (aU 0) (aV 0) (aS 0) (aR 0) sF ++ (wH g aH sH ++ (wP g aP sP ++ (wT g aT sT ++ (wC g aC (aK 0) rr sC ++ (wS g aK sK ++ (wB g aB sB ++ (wT g aQ sQ ++ (wT g aU sU ++ (wT g aV sV ++ (wS g aS sS ++ wS g aR sR))))))))))) ++ wR g rr sC.classOf) ((wF g aF (aH 0) (aP 0) (aT 0) (aC 0) (aB 0) (aQ 0) (aU 0) (aV 0) (aS 0) (aR 0) sF ++ (wH g aH sH ++ (wP g aP r.2 ++ (wT g aT sT ++ (wC g aC (aK 0) rr sC ++ (wS g aK sK ++ (wB g aB sB ++ (wT g aQ sQ ++ (wT g aU sU ++ (wT g aV sV ++ (wS g aS sS ++ wS g aR sR))))))))))) ++ wR g rr sC.classOf) r.1 := by
  refine x_ofW_i (own := RX6) (by decide) rfl rfl (Nat.le_of_ble_eq_true rfl) ?_
  intro p e s m args below meth c ls A QQ C hRet Z hl
  have hl : lv_has ls 2 [(0, .ref (aF 0)), (1, .int (iI v1))] := hl
  unfold p_X6_say at hf
  refine lv_iload_n C.1 C.2.1 dX6_say_0 rfl (lv_at hl 1 rfl) ?_
  refine x_bipush C dX6_say_1 (by decide) ?_
  have q1 := (ck_some hf).1
  have h2 := (ck_some hf).2
  clear hf
  refine x_icmp_lt (tgt := 12) C dX6_say_3 (by decide) q1 (by decide) (fun c3 => ?_) (fun c3 => ?_)
  · have h4 := if_p h2 c3
    clear h2
    refine x_bipush C dX6_say_12 (by decide) ?_
    have h6 := Option.some.inj h4
    subst h6
    exact hRet _ _ _ _ Z dX6_say_14
  · have h5 := if_n h2 c3
    clear h2
    refine lv_iload_n C.1 C.2.1 dX6_say_6 rfl (lv_at hl 1 rfl) ?_
    refine x_bipush C dX6_say_7 (by decide) ?_
    refine x_icmp_le (tgt := 15) C dX6_say_9 (by decide) q1 (by decide) (fun c7 => ?_) (fun c7 => ?_)
    · have h8 := if_n h5 c7
      clear h5
      refine lv_aload_n C.1 C.2.1 dX6_say_15 rfl (lv_at hl 0 rfl) ?_
      refine x_get C Z 0 rfl rfl i_X6_X6_say (k := 1) (by decide) (List.mem_of_getElem? (i := 1) rfl) rfl dX6_say_16 ?_
      obtain ⟨r10, hr10, h11⟩ := bd_some h8
      clear h8
      refine x_callV_i_Q (As := []) (rest := []) (q0 := 0) (X2 := (wF g aF (aH 0) (aP 0) (aT 0) (aC 0) (aB 0) (aQ 0) (aU 0) (aV 0) (aS 0) (aR 0) sF ++ (wH g aH sH ++ (wP g aP sP ++ (wT g aT sT ++ (wC g aC (aK 0) rr sC ++ (wS g aK sK ++ (wB g aB sB ++ (wT g aQ sQ ++ (wT g aU sU ++ (wT g aV sV ++ (wS g aS sS ++ wS g aR sR)))))))))))) C Z fr_FHPTCKBQUVSR_2 (k_X3_size l g n aP sP r10 hr10) gX6_say_X3_size yk_X3_size ⟨Nat.le_of_ble_eq_true rfl, Nat.le_of_ble_eq_true rfl⟩ rfl rfl ⟨Nat.zero_le _, Nat.zero_le _⟩ hl.1 rfl (Nat.le_of_ble_eq_true rfl) rfl dX6_say_19 (fun H locs Z => ?_)
      refine x_bipush C dX6_say_22 (by decide) ?_
      have q12 := (ck_some h11).1
      have h13 := (ck_some h11).2
      clear h11
      refine x_icmp_lt (tgt := 30) C dX6_say_24 (by decide) q12 (by decide) (fun c14 => ?_) (fun c14 => ?_)
      · have h15 := if_p h13 c14
        clear h13
        refine lv_aload_n C.1 C.2.1 dX6_say_30 rfl (lv_at hl 0 rfl) ?_
        refine x_get C Z 0 rfl rfl i_X6_X6_say (k := 1) (by decide) (List.mem_of_getElem? (i := 1) rfl) rfl dX6_say_31 ?_
        refine lv_iload_n C.1 C.2.1 dX6_say_34 rfl (lv_at hl 1 rfl) ?_
        obtain ⟨r17, hr17, h18⟩ := bd_some h15
        clear h15
        refine x_callV_v_Q (As := [.int (iI v1)]) (rest := []) (q0 := 0) (X2 := (wF g aF (aH 0) (aP 0) (aT 0) (aC 0) (aB 0) (aQ 0) (aU 0) (aV 0) (aS 0) (aR 0) sF ++ (wH g aH sH ++ (wP g aP r17 ++ (wT g aT sT ++ (wC g aC (aK 0) rr sC ++ (wS g aK sK ++ (wB g aB sB ++ (wT g aQ sQ ++ (wT g aU sU ++ (wT g aV sV ++ (wS g aS sS ++ wS g aR sR)))))))))))) C Z fr_FHPTCKBQUVSR_2 (k_X3_add l g n aP sP v1 r17 hr17) gX6_say_X3_add yk_X3_add ⟨Nat.le_of_ble_eq_true rfl, Nat.le_of_ble_eq_true rfl⟩ rfl rfl ⟨Nat.zero_le _, Nat.zero_le _⟩ hl.1 rfl (Nat.le_of_ble_eq_true rfl) rfl dX6_say_35 (fun H locs Z => ?_)
        refine lv_aload_n C.1 C.2.1 dX6_say_38 rfl (lv_at hl 0 rfl) ?_
        refine x_get C Z 0 rfl rfl i_X6_X6_say (k := 1) (by decide) (List.mem_of_getElem? (i := 1) rfl) rfl dX6_say_39 ?_
        obtain ⟨r19, hr19, h20⟩ := bd_some h18
        clear h18
        refine x_callV_i_Q (As := []) (rest := []) (q0 := 0) (X2 := (wF g aF (aH 0) (aP 0) (aT 0) (aC 0) (aB 0) (aQ 0) (aU 0) (aV 0) (aS 0) (aR 0) sF ++ (wH g aH sH ++ (wP g aP r17 ++ (wT g aT sT ++ (wC g aC (aK 0) rr sC ++ (wS g aK sK ++ (wB g aB sB ++ (wT g aQ sQ ++ (wT g aU sU ++ (wT g aV sV ++ (wS g aS sS ++ wS g aR sR)))))))))))) C Z fr_FHPTCKBQUVSR_2 (k_X3_size l g n aP r17 r19 hr19) gX6_say_X3_size yk_X3_size ⟨Nat.le_of_ble_eq_true rfl, Nat.le_of_ble_eq_true rfl⟩ rfl rfl ⟨Nat.zero_le _, Nat.zero_le _⟩ hl.1 rfl (Nat.le_of_ble_eq_true rfl) rfl dX6_say_42 (fun H locs Z => ?_)
        have h21 := Option.some.inj h20
        subst h21
        exact hRet _ _ _ _ Z dX6_say_45
      · have h16 := if_n h13 c14
        clear h13
        refine x_bipush C dX6_say_27 (by decide) ?_
        have h22 := Option.some.inj h16
        subst h22
        exact hRet _ _ _ _ Z dX6_say_29
    · have h9 := if_p h5 c7
      clear h5
      refine x_bipush C dX6_say_12 (by decide) ?_
      have h23 := Option.some.inj h9
      subst h23
      exact hRet _ _ _ _ Z dX6_say_14
abbrev rmX6_wipe : Room := { frames := 1, cells := 0, slots := 0, locals := 20 }
theorem yk_X6_wipe : xY yX6_wipe RX6 cX6_wipe 2 (some .int) wsX6_wipe rmX6_wipe 0 := ⟨⟨_, rfl⟩, by decide +kernel, rfl, rfl⟩
theorem i_X3_X6_wipe : ∀ w ∈ u_ws RX3 TX3 2, w ∈ wsX6_wipe := fun _ h => List.mem_cons_of_mem _ (List.mem_append_right _ h)
theorem i_X6_X6_wipe : ∀ w ∈ u_ws RX6 TX6 11, w ∈ wsX6_wipe := fun _ h => List.mem_cons_of_mem _ (List.mem_append_left _ (List.mem_append_right _ h))
set_option maxHeartbeats 4000000 in
set_option maxRecDepth 100000 in
theorem k_X6_wipe (l : Launch) (g : xG) (n : Nat) (aF : Nat → Nat) (aH : Nat → Nat) (aP : Nat → Nat) (aT : Nat → Nat) (aC : Nat → Nat) (aK : Nat → Nat) (aB : Nat → Nat) (aQ : Nat → Nat) (aU : Nat → Nat) (aV : Nat → Nat) (aS : Nat → Nat) (aR : Nat → Nat) (rr : Nat → Nat) (sF : Int) (sH : HisS) (sP : PadS) (sT : TxtS) (sC : ClsS) (sK : SwpS) (sB : BegS) (sQ : TxtS) (sU : TxtS) (sV : TxtS) (sS : SwpS) (sR : SwpS) (r : Int × PadS) (hf : p_X6_wipe sP = some r) : xMi l yX6_wipe wsX6_wipe rmX6_wipe g [.ref (aF 0)] ((wF g aF (aH 0) (aP 0) (aT 0) (aC 0) (aB 0) (aQ 0) (aU 0) (aV 0) (aS 0) (aR 0) sF ++ (wH g aH sH ++ (wP g aP sP ++ (wT g aT sT ++ (wC g aC (aK 0) rr sC ++ (wS g aK sK ++ (wB g aB sB ++ (wT g aQ sQ ++ (wT g aU sU ++ (wT g aV sV ++ (wS g aS sS ++ wS g aR sR))))))))))) ++ wR g rr sC.classOf) ((wF g aF (aH 0) (aP 0) (aT 0) (aC 0) (aB 0) (aQ 0) (aU 0) (aV 0) (aS 0) (aR 0) sF ++ (wH g aH sH ++ (wP g aP r.2 ++ (wT g aT sT ++ (wC g aC (aK 0) rr sC ++ (wS g aK sK ++ (wB g aB sB ++ (wT g aQ sQ ++ (wT g aU sU ++ (wT g aV sV ++ (wS g aS sS ++ wS g aR sR))))))))))) ++ wR g rr sC.classOf) r.1 := by
  refine x_ofW_i (own := RX6) (by decide) rfl rfl (Nat.le_of_ble_eq_true rfl) ?_
  intro p e s m args below meth c ls A QQ C hRet Z hl
  have hl : lv_has ls 2 [(0, .ref (aF 0))] := hl
  unfold p_X6_wipe at hf
  refine lv_aload_n C.1 C.2.1 dX6_wipe_0 rfl (lv_at hl 0 rfl) ?_
  refine x_get C Z 0 rfl rfl i_X6_X6_wipe (k := 1) (by decide) (List.mem_of_getElem? (i := 1) rfl) rfl dX6_wipe_1 ?_
  obtain ⟨r1, hr1, h2⟩ := bd_some hf
  clear hf
  refine x_callV_i_Q (As := []) (rest := []) (q0 := 0) (X2 := (wF g aF (aH 0) (aP 0) (aT 0) (aC 0) (aB 0) (aQ 0) (aU 0) (aV 0) (aS 0) (aR 0) sF ++ (wH g aH sH ++ (wP g aP sP ++ (wT g aT sT ++ (wC g aC (aK 0) rr sC ++ (wS g aK sK ++ (wB g aB sB ++ (wT g aQ sQ ++ (wT g aU sU ++ (wT g aV sV ++ (wS g aS sS ++ wS g aR sR)))))))))))) C Z fr_FHPTCKBQUVSR_2 (k_X3_size l g n aP sP r1 hr1) gX6_wipe_X3_size yk_X3_size ⟨Nat.le_of_ble_eq_true rfl, Nat.le_of_ble_eq_true rfl⟩ rfl rfl ⟨Nat.zero_le _, Nat.zero_le _⟩ hl.1 rfl (Nat.le_of_ble_eq_true rfl) rfl dX6_wipe_4 (fun H locs Z => ?_)
  refine lv_istore_n (lv' := [(1, .int (iI r1)), (0, .ref (aF 0))]) C.1 C.2.1 dX6_wipe_7 rfl hl (by decide) rfl (fun ls hl => ?_)
  refine lv_aload_n C.1 C.2.1 dX6_wipe_8 rfl (lv_at hl 1 rfl) ?_
  refine x_get C Z 0 rfl rfl i_X6_X6_wipe (k := 1) (by decide) (List.mem_of_getElem? (i := 1) rfl) rfl dX6_wipe_9 ?_
  obtain ⟨r3, hr3, h4⟩ := bd_some h2
  clear h2
  refine x_callV_v_Q (As := []) (rest := []) (q0 := 0) (X2 := (wF g aF (aH 0) (aP 0) (aT 0) (aC 0) (aB 0) (aQ 0) (aU 0) (aV 0) (aS 0) (aR 0) sF ++ (wH g aH sH ++ (wP g aP r3 ++ (wT g aT sT ++ (wC g aC (aK 0) rr sC ++ (wS g aK sK ++ (wB g aB sB ++ (wT g aQ sQ ++ (wT g aU sU ++ (wT g aV sV ++ (wS g aS sS ++ wS g aR sR)))))))))))) C Z fr_FHPTCKBQUVSR_2 (k_X3_clear l g n aP sP r3 hr3) gX6_wipe_X3_clear yk_X3_clear ⟨Nat.le_of_ble_eq_true rfl, Nat.le_of_ble_eq_true rfl⟩ rfl rfl ⟨Nat.zero_le _, Nat.zero_le _⟩ hl.1 rfl (Nat.le_of_ble_eq_true rfl) rfl dX6_wipe_12 (fun H locs Z => ?_)
  refine lv_iload_n C.1 C.2.1 dX6_wipe_15 rfl (lv_at hl 0 rfl) ?_
  have h5 := Option.some.inj h4
  subst h5
  exact hRet _ _ _ _ Z dX6_wipe_16
abbrev rmX6_pad : Room := { frames := 1, cells := 0, slots := 0, locals := 21 }
theorem yk_X6_pad : xY yX6_pad RX6 cX6_pad 2 (some .int) wsX6_pad rmX6_pad 1 := ⟨⟨_, rfl⟩, by decide +kernel, rfl, rfl⟩
theorem i_X3_X6_pad : ∀ w ∈ u_ws RX3 TX3 2, w ∈ wsX6_pad := fun _ h => List.mem_cons_of_mem _ (List.mem_append_right _ h)
theorem i_X6_X6_pad : ∀ w ∈ u_ws RX6 TX6 11, w ∈ wsX6_pad := fun _ h => List.mem_cons_of_mem _ (List.mem_append_left _ (List.mem_append_right _ h))
set_option maxHeartbeats 4000000 in
set_option maxRecDepth 100000 in
theorem k_X6_pad (l : Launch) (g : xG) (n : Nat) (aF : Nat → Nat) (aH : Nat → Nat) (aP : Nat → Nat) (aT : Nat → Nat) (aC : Nat → Nat) (aK : Nat → Nat) (aB : Nat → Nat) (aQ : Nat → Nat) (aU : Nat → Nat) (aV : Nat → Nat) (aS : Nat → Nat) (aR : Nat → Nat) (rr : Nat → Nat) (sF : Int) (sH : HisS) (sP : PadS) (sT : TxtS) (sC : ClsS) (sK : SwpS) (sB : BegS) (sQ : TxtS) (sU : TxtS) (sV : TxtS) (sS : SwpS) (sR : SwpS) (v1 : Int) (r : Int) (hf : p_X6_pad sP v1 = some r) : xMi l yX6_pad wsX6_pad rmX6_pad g [.ref (aF 0), .int (iI v1)] ((wF g aF (aH 0) (aP 0) (aT 0) (aC 0) (aB 0) (aQ 0) (aU 0) (aV 0) (aS 0) (aR 0) sF ++ (wH g aH sH ++ (wP g aP sP ++ (wT g aT sT ++ (wC g aC (aK 0) rr sC ++ (wS g aK sK ++ (wB g aB sB ++ (wT g aQ sQ ++ (wT g aU sU ++ (wT g aV sV ++ (wS g aS sS ++ wS g aR sR))))))))))) ++ wR g rr sC.classOf) ((wF g aF (aH 0) (aP 0) (aT 0) (aC 0) (aB 0) (aQ 0) (aU 0) (aV 0) (aS 0) (aR 0) sF ++ (wH g aH sH ++ (wP g aP sP ++ (wT g aT sT ++ (wC g aC (aK 0) rr sC ++ (wS g aK sK ++ (wB g aB sB ++ (wT g aQ sQ ++ (wT g aU sU ++ (wT g aV sV ++ (wS g aS sS ++ wS g aR sR))))))))))) ++ wR g rr sC.classOf) r := by
  refine x_ofW_i (own := RX6) (by decide) rfl rfl (Nat.le_of_ble_eq_true rfl) ?_
  intro p e s m args below meth c ls A QQ C hRet Z hl
  have hl : lv_has ls 2 [(0, .ref (aF 0)), (1, .int (iI v1))] := hl
  unfold p_X6_pad at hf
  refine lv_iload_n C.1 C.2.1 dX6_pad_0 rfl (lv_at hl 1 rfl) ?_
  refine x_iconst C dX6_pad_1 ?_
  have q1 := (ck_some hf).1
  have h2 := (ck_some hf).2
  clear hf
  refine x_icmp_ne (tgt := 15) C dX6_pad_2 (by decide) q1 (by decide) (fun c3 => ?_) (fun c3 => ?_)
  · have h4 := if_n h2 c3
    clear h2
    refine lv_aload_n C.1 C.2.1 dX6_pad_15 rfl (lv_at hl 0 rfl) ?_
    refine x_get C Z 0 rfl rfl i_X6_X6_pad (k := 1) (by decide) (List.mem_of_getElem? (i := 1) rfl) rfl dX6_pad_16 ?_
    refine lv_iload_n C.1 C.2.1 dX6_pad_19 rfl (lv_at hl 1 rfl) ?_
    obtain ⟨r6, hr6, h7⟩ := bd_some h4
    clear h4
    refine x_callV_i_Q (As := [.int (iI v1)]) (rest := []) (q0 := 0) (X2 := (wF g aF (aH 0) (aP 0) (aT 0) (aC 0) (aB 0) (aQ 0) (aU 0) (aV 0) (aS 0) (aR 0) sF ++ (wH g aH sH ++ (wP g aP sP ++ (wT g aT sT ++ (wC g aC (aK 0) rr sC ++ (wS g aK sK ++ (wB g aB sB ++ (wT g aQ sQ ++ (wT g aU sU ++ (wT g aV sV ++ (wS g aS sS ++ wS g aR sR)))))))))))) C Z fr_FHPTCKBQUVSR_2 (k_X3_characterAt l g n aP sP v1 r6 hr6) gX6_pad_X3_characterAt yk_X3_characterAt ⟨Nat.le_of_ble_eq_true rfl, Nat.le_of_ble_eq_true rfl⟩ rfl rfl ⟨Nat.zero_le _, Nat.zero_le _⟩ hl.1 rfl (Nat.le_of_ble_eq_true rfl) rfl dX6_pad_20 (fun H locs Z => ?_)
    have h8 := Option.some.inj h7
    subst h8
    exact hRet _ _ _ _ Z dX6_pad_23
  · have h5 := if_p h2 c3
    clear h2
    refine lv_aload_n C.1 C.2.1 dX6_pad_5 rfl (lv_at hl 0 rfl) ?_
    refine x_get C Z 0 rfl rfl i_X6_X6_pad (k := 1) (by decide) (List.mem_of_getElem? (i := 1) rfl) rfl dX6_pad_6 ?_
    obtain ⟨r9, hr9, h10⟩ := bd_some h5
    clear h5
    refine x_callV_i_Q (As := []) (rest := []) (q0 := 0) (X2 := (wF g aF (aH 0) (aP 0) (aT 0) (aC 0) (aB 0) (aQ 0) (aU 0) (aV 0) (aS 0) (aR 0) sF ++ (wH g aH sH ++ (wP g aP sP ++ (wT g aT sT ++ (wC g aC (aK 0) rr sC ++ (wS g aK sK ++ (wB g aB sB ++ (wT g aQ sQ ++ (wT g aU sU ++ (wT g aV sV ++ (wS g aS sS ++ wS g aR sR)))))))))))) C Z fr_FHPTCKBQUVSR_2 (k_X3_size l g n aP sP r9 hr9) gX6_pad_X3_size yk_X3_size ⟨Nat.le_of_ble_eq_true rfl, Nat.le_of_ble_eq_true rfl⟩ rfl rfl ⟨Nat.zero_le _, Nat.zero_le _⟩ hl.1 rfl (Nat.le_of_ble_eq_true rfl) rfl dX6_pad_9 (fun H locs Z => ?_)
    refine lv_goto (tgt := 23) C.1 C.2.1 dX6_pad_12 (by decide) ?_
    have h11 := Option.some.inj h10
    subst h11
    exact hRet _ _ _ _ Z dX6_pad_23
abbrev rmX3_faultAsPattern : Room := { frames := 2, cells := 0, slots := 0, locals := 43 }
theorem yk_X3_faultAsPattern : xY yX3_faultAsPattern RX3 cX3_faultAsPattern 1 (some .int) wsX3_faultAsPattern rmX3_faultAsPattern 0 := ⟨⟨_, rfl⟩, by decide +kernel, rfl, rfl⟩
theorem i_X3_X3_faultAsPattern : ∀ w ∈ u_ws RX3 TX3 2, w ∈ wsX3_faultAsPattern := fun _ h => List.mem_cons_of_mem _ (List.mem_append_right _ h)
set_option maxHeartbeats 4000000 in
set_option maxRecDepth 100000 in
theorem k_X3_faultAsPattern (l : Launch) (g : xG) (n : Nat) (aP : Nat → Nat) (sP : PadS) (r : Int) (hf : p_X3_faultAsPattern n sP = some r) : xMi l yX3_faultAsPattern wsX3_faultAsPattern rmX3_faultAsPattern g [.ref (aP 0)] (wP g aP sP) (wP g aP sP) r := by
  refine x_ofW_i (own := RX3) (by decide) rfl rfl (Nat.le_of_ble_eq_true rfl) ?_
  intro p e s m args below meth c ls A QQ C hRet Z hl
  have hl : lv_has ls 1 [(0, .ref (aP 0))] := hl
  unfold p_X3_faultAsPattern at hf
  refine lv_aload_n C.1 C.2.1 dX3_faultAsPattern_0 rfl (lv_at hl 0 rfl) ?_
  refine x_get C Z 0 rfl rfl i_X3_X3_faultAsPattern (k := 1) (by decide) (List.mem_of_getElem? (i := 1) rfl) rfl dX3_faultAsPattern_1 ?_
  have q1 := (ck_some hf).1
  have h2 := (ck_some hf).2
  clear hf
  refine x_if_ne (tgt := 11) C dX3_faultAsPattern_4 (by decide) q1 (fun c3 => ?_) (fun c3 => ?_)
  · have h4 := if_n h2 c3
    clear h2
    refine lv_aload_n C.1 C.2.1 dX3_faultAsPattern_11 rfl (lv_at hl 0 rfl) ?_
    refine x_iconst C dX3_faultAsPattern_12 ?_
    obtain ⟨r6, hr6, h7⟩ := bd_some h4
    clear h4
    refine x_callV_i_id (As := [.int (iI 0)]) (rest := []) (q0 := 0) C Z (k_X3_firstFault l g n aP sP 0 r6 hr6) gX3_faultAsPattern_X3_firstFault yk_X3_firstFault ⟨Nat.le_of_ble_eq_true rfl, Nat.le_of_ble_eq_true rfl⟩ rfl rfl ⟨Nat.zero_le _, Nat.zero_le _⟩ hl.1 rfl (Nat.le_of_ble_eq_true rfl) rfl dX3_faultAsPattern_13 (fun H locs Z => ?_)
    have h8 := Option.some.inj h7
    subst h8
    exact hRet _ _ _ _ Z dX3_faultAsPattern_16
  · have h5 := if_p h2 c3
    clear h2
    refine x_iconst C dX3_faultAsPattern_7 ?_
    refine lv_goto (tgt := 16) C.1 C.2.1 dX3_faultAsPattern_8 (by decide) ?_
    have h9 := Option.some.inj h5
    subst h9
    exact hRet _ _ _ _ Z dX3_faultAsPattern_16
abbrev rmX6_fault : Room := { frames := 3, cells := 0, slots := 0, locals := 63 }
theorem yk_X6_fault : xY yX6_fault RX6 cX6_fault 2 (some .int) wsX6_fault rmX6_fault 1 := ⟨⟨_, rfl⟩, by decide +kernel, rfl, rfl⟩
theorem i_X3_X6_fault : ∀ w ∈ u_ws RX3 TX3 2, w ∈ wsX6_fault := fun _ h => List.mem_cons_of_mem _ (List.mem_append_right _ h)
theorem i_X6_X6_fault : ∀ w ∈ u_ws RX6 TX6 11, w ∈ wsX6_fault := fun _ h => List.mem_cons_of_mem _ (List.mem_append_left _ (List.mem_append_right _ h))
set_option maxHeartbeats 4000000 in
set_option maxRecDepth 100000 in
theorem k_X6_fault (l : Launch) (g : xG) (n : Nat) (aF : Nat → Nat) (aH : Nat → Nat) (aP : Nat → Nat) (aT : Nat → Nat) (aC : Nat → Nat) (aK : Nat → Nat) (aB : Nat → Nat) (aQ : Nat → Nat) (aU : Nat → Nat) (aV : Nat → Nat) (aS : Nat → Nat) (aR : Nat → Nat) (rr : Nat → Nat) (sF : Int) (sH : HisS) (sP : PadS) (sT : TxtS) (sC : ClsS) (sK : SwpS) (sB : BegS) (sQ : TxtS) (sU : TxtS) (sV : TxtS) (sS : SwpS) (sR : SwpS) (v1 : Int) (r : Int) (hf : p_X6_fault n sP v1 = some r) : xMi l yX6_fault wsX6_fault rmX6_fault g [.ref (aF 0), .int (iI v1)] ((wF g aF (aH 0) (aP 0) (aT 0) (aC 0) (aB 0) (aQ 0) (aU 0) (aV 0) (aS 0) (aR 0) sF ++ (wH g aH sH ++ (wP g aP sP ++ (wT g aT sT ++ (wC g aC (aK 0) rr sC ++ (wS g aK sK ++ (wB g aB sB ++ (wT g aQ sQ ++ (wT g aU sU ++ (wT g aV sV ++ (wS g aS sS ++ wS g aR sR))))))))))) ++ wR g rr sC.classOf) ((wF g aF (aH 0) (aP 0) (aT 0) (aC 0) (aB 0) (aQ 0) (aU 0) (aV 0) (aS 0) (aR 0) sF ++ (wH g aH sH ++ (wP g aP sP ++ (wT g aT sT ++ (wC g aC (aK 0) rr sC ++ (wS g aK sK ++ (wB g aB sB ++ (wT g aQ sQ ++ (wT g aU sU ++ (wT g aV sV ++ (wS g aS sS ++ wS g aR sR))))))))))) ++ wR g rr sC.classOf) r := by
  refine x_ofW_i (own := RX6) (by decide) rfl rfl (Nat.le_of_ble_eq_true rfl) ?_
  intro p e s m args below meth c ls A QQ C hRet Z hl
  have hl : lv_has ls 2 [(0, .ref (aF 0)), (1, .int (iI v1))] := hl
  unfold p_X6_fault at hf
  have hJ12 : ∀ (v1_12 : Int) (H : Heap) (locs : List Loc) (ls : Array Slot), p_X6_fault_j12 n sP v1_12 = some r → xSt g A s ((wF g aF (aH 0) (aP 0) (aT 0) (aC 0) (aB 0) (aQ 0) (aU 0) (aV 0) (aS 0) (aR 0) sF ++ (wH g aH sH ++ (wP g aP sP ++ (wT g aT sT ++ (wC g aC (aK 0) rr sC ++ (wS g aK sK ++ (wB g aB sB ++ (wT g aQ sQ ++ (wT g aU sU ++ (wT g aV sV ++ (wS g aS sS ++ wS g aR sR))))))))))) ++ wR g rr sC.classOf) H locs → lv_has ls 2 [(0, .ref (aF 0)), (1, .int (iI v1_12))] → W p l e rmX6_fault s m args below meth c H locs 0 0 QQ (F0 m 12 ls []) := by
    intro v1_12 H locs ls hj12 Z hl
    unfold p_X6_fault_j12 at hj12
    refine lv_iload_n C.1 C.2.1 dX6_fault_12 rfl (lv_at hl 1 rfl) ?_
    have q1 := (ck_some hj12).1
    have h2 := (ck_some hj12).2
    clear hj12
    refine x_if_ne (tgt := 26) C dX6_fault_13 (by decide) q1 (fun c3 => ?_) (fun c3 => ?_)
    · have h4 := if_n h2 c3
      clear h2
      refine lv_aload_n C.1 C.2.1 dX6_fault_26 rfl (lv_at hl 0 rfl) ?_
      refine x_get C Z 0 rfl rfl i_X6_X6_fault (k := 1) (by decide) (List.mem_of_getElem? (i := 1) rfl) rfl dX6_fault_27 ?_
      obtain ⟨r6, hr6, h7⟩ := bd_some h4
      clear h4
      refine x_callV_i_Q (As := []) (rest := []) (q0 := 0) (X2 := (wF g aF (aH 0) (aP 0) (aT 0) (aC 0) (aB 0) (aQ 0) (aU 0) (aV 0) (aS 0) (aR 0) sF ++ (wH g aH sH ++ (wP g aP sP ++ (wT g aT sT ++ (wC g aC (aK 0) rr sC ++ (wS g aK sK ++ (wB g aB sB ++ (wT g aQ sQ ++ (wT g aU sU ++ (wT g aV sV ++ (wS g aS sS ++ wS g aR sR)))))))))))) C Z fr_FHPTCKBQUVSR_2 (k_X3_faultAsWords l g n aP sP r6 hr6) gX6_fault_X3_faultAsWords yk_X3_faultAsWords ⟨Nat.le_of_ble_eq_true rfl, Nat.le_of_ble_eq_true rfl⟩ rfl rfl ⟨Nat.zero_le _, Nat.zero_le _⟩ hl.1 rfl (Nat.le_of_ble_eq_true rfl) rfl dX6_fault_30 (fun H locs Z => ?_)
      have h8 := Option.some.inj h7
      subst h8
      exact hRet _ _ _ _ Z dX6_fault_33
    · have h5 := if_p h2 c3
      clear h2
      refine lv_aload_n C.1 C.2.1 dX6_fault_16 rfl (lv_at hl 0 rfl) ?_
      refine x_get C Z 0 rfl rfl i_X6_X6_fault (k := 1) (by decide) (List.mem_of_getElem? (i := 1) rfl) rfl dX6_fault_17 ?_
      obtain ⟨r9, hr9, h10⟩ := bd_some h5
      clear h5
      refine x_callV_i_Q (As := []) (rest := []) (q0 := 0) (X2 := (wF g aF (aH 0) (aP 0) (aT 0) (aC 0) (aB 0) (aQ 0) (aU 0) (aV 0) (aS 0) (aR 0) sF ++ (wH g aH sH ++ (wP g aP sP ++ (wT g aT sT ++ (wC g aC (aK 0) rr sC ++ (wS g aK sK ++ (wB g aB sB ++ (wT g aQ sQ ++ (wT g aU sU ++ (wT g aV sV ++ (wS g aS sS ++ wS g aR sR)))))))))))) C Z fr_FHPTCKBQUVSR_2 (k_X3_faultAsPattern l g n aP sP r9 hr9) gX6_fault_X3_faultAsPattern yk_X3_faultAsPattern ⟨Nat.le_of_ble_eq_true rfl, Nat.le_of_ble_eq_true rfl⟩ rfl rfl ⟨Nat.zero_le _, Nat.zero_le _⟩ hl.1 rfl (Nat.le_of_ble_eq_true rfl) rfl dX6_fault_20 (fun H locs Z => ?_)
      refine lv_goto (tgt := 33) C.1 C.2.1 dX6_fault_23 (by decide) ?_
      have h11 := Option.some.inj h10
      subst h11
      exact hRet _ _ _ _ Z dX6_fault_33
  refine lv_iload_n C.1 C.2.1 dX6_fault_0 rfl (lv_at hl 1 rfl) ?_
  have q12 := (ck_some hf).1
  have h13 := (ck_some hf).2
  clear hf
  refine x_if_eq (tgt := 12) C dX6_fault_1 (by decide) q12 (fun c14 => ?_) (fun c14 => ?_)
  · have h15 := if_p h13 c14
    clear h13
    exact hJ12 v1 _ _ _ h15 Z (lv_sub hl [0, 1] rfl)
  · have h16 := if_n h13 c14
    clear h13
    refine lv_iload_n C.1 C.2.1 dX6_fault_4 rfl (lv_at hl 1 rfl) ?_
    refine x_iconst C dX6_fault_5 ?_
    refine x_icmp_eq (tgt := 12) C dX6_fault_6 (by decide) q12 (by decide) (fun c17 => ?_) (fun c17 => ?_)
    · have h18 := if_p h16 c17
      clear h16
      exact hJ12 v1 _ _ _ h18 Z (lv_sub hl [0, 1] rfl)
    · have h19 := if_n h16 c17
      clear h16
      refine x_bipush C dX6_fault_9 (by decide) ?_
      have h20 := Option.some.inj h19
      subst h20
      exact hRet _ _ _ _ Z dX6_fault_11
abbrev rmX5_becomeOneWord : Room := { frames := 1, cells := 0, slots := 0, locals := 21 }
theorem yk_X5_becomeOneWord : xY yX5_becomeOneWord RX5 cX5_becomeOneWord 3 none wsX5_becomeOneWord rmX5_becomeOneWord 1 := ⟨⟨_, rfl⟩, by decide +kernel, rfl, rfl⟩
theorem i_X5_X5_becomeOneWord : ∀ w ∈ u_ws RX5 TX5 8, w ∈ wsX5_becomeOneWord := fun _ h => List.mem_cons_of_mem _ (List.mem_append_right _ h)
set_option maxHeartbeats 4000000 in
set_option maxRecDepth 100000 in
theorem k_X5_becomeOneWord (l : Launch) (g : xG) (n : Nat) (aT : Nat → Nat) (sT : TxtS) (v1 : Int) (r : TxtS) (hf : p_X5_becomeOneWord n sT v1 = some r) : xMv l yX5_becomeOneWord wsX5_becomeOneWord rmX5_becomeOneWord g [.ref (aT 0), .int (iI v1)] (wT g aT sT) (wT g aT r) := by
  refine x_ofW_v (own := RX5) (by decide) rfl rfl (Nat.le_of_ble_eq_true rfl) ?_
  intro p e s m args below meth c ls A QQ C hRet Z hl
  have hl : lv_has ls 3 [(0, .ref (aT 0)), (1, .int (iI v1))] := hl
  unfold p_X5_becomeOneWord at hf
  refine lv_aload_n C.1 C.2.1 dX5_becomeOneWord_0 rfl (lv_at hl 0 rfl) ?_
  refine x_iconst C dX5_becomeOneWord_1 ?_
  refine x_put (ws2 := wT g aT (sT.letters, sT.words, sT.places, sT.rests, sT.starts, sT.wordCount, sT.length, (-1))) C Z 0 rfl rfl i_X5_X5_becomeOneWord tyX5_ok nmX5 (k := 7) (by decide) (List.mem_of_getElem? (i := 1) rfl) rfl rfl (Nat.le_of_ble_eq_true rfl) dX5_becomeOneWord_2 rfl (fun H locs Z => ?_)
  refine lv_aload_n C.1 C.2.1 dX5_becomeOneWord_5 rfl (lv_at hl 0 rfl) ?_
  refine x_iconst C dX5_becomeOneWord_6 ?_
  refine x_put (ws2 := wT g aT (sT.letters, sT.words, sT.places, sT.rests, sT.starts, 1, sT.length, (-1))) C Z 0 rfl rfl i_X5_X5_becomeOneWord tyX5_ok nmX5 (k := 5) (by decide) (List.mem_of_getElem? (i := 2) rfl) rfl rfl (Nat.le_of_ble_eq_true rfl) dX5_becomeOneWord_7 rfl (fun H locs Z => ?_)
  refine lv_aload_n C.1 C.2.1 dX5_becomeOneWord_10 rfl (lv_at hl 0 rfl) ?_
  refine x_get C Z 0 rfl rfl i_X5_X5_becomeOneWord (k := 4) (by decide) (List.mem_of_getElem? (i := 3) rfl) rfl dX5_becomeOneWord_11 ?_
  refine x_iconst C dX5_becomeOneWord_14 ?_
  refine x_iconst C dX5_becomeOneWord_15 ?_
  refine x_iast (ws2 := wT g aT (sT.letters, sT.words, sT.places, sT.rests, up sT.starts 0 0, 1, sT.length, (-1))) C Z 5 rfl (by decide) (by decide) dX5_becomeOneWord_16 rfl (fun H locs Z => ?_)
  refine lv_aload_n C.1 C.2.1 dX5_becomeOneWord_17 rfl (lv_at hl 0 rfl) ?_
  refine x_iconst C dX5_becomeOneWord_18 ?_
  refine lv_iload_n C.1 C.2.1 dX5_becomeOneWord_19 rfl (lv_at hl 1 rfl) ?_
  refine x_bipush C dX5_becomeOneWord_20 (by decide) ?_
  have q1 := (ck_some hf).1
  have h2 := (ck_some hf).2
  clear hf
  refine x_mmin (rest := [.int (iI 0), .ref (aT 0)]) C hl.1 (List.mem_of_getElem? (i := 4) rfl) (List.mem_of_getElem? (i := 5) rfl) (List.mem_of_getElem? (i := 6) rfl) (List.mem_of_getElem? (i := 7) rfl) (by decide) (by decide) (Nat.le_of_ble_eq_true rfl) ⟨Nat.zero_le _, Nat.zero_le _⟩ q1 (by decide) dX5_becomeOneWord_22 ?_
  have q3 := (ck_some h2).1
  have h4 := (ck_some h2).2
  clear h2
  refine x_mmax (rest := [.ref (aT 0)]) C hl.1 (List.mem_of_getElem? (i := 8) rfl) (List.mem_of_getElem? (i := 9) rfl) (List.mem_of_getElem? (i := 6) rfl) (List.mem_of_getElem? (i := 10) rfl) (by decide) (by decide) (Nat.le_of_ble_eq_true rfl) ⟨Nat.zero_le _, Nat.zero_le _⟩ (by decide) q3 dX5_becomeOneWord_25 ?_
  refine x_put (ws2 := wT g aT (sT.letters, sT.words, sT.places, sT.rests, up sT.starts 0 0, 1, max 0 (min v1 60), (-1))) C Z 0 rfl rfl i_X5_X5_becomeOneWord tyX5_ok nmX5 (k := 6) (by decide) (List.mem_of_getElem? (i := 11) rfl) rfl rfl (Nat.le_of_ble_eq_true rfl) dX5_becomeOneWord_28 rfl (fun H locs Z => ?_)
  refine x_iconst C dX5_becomeOneWord_31 ?_
  refine lv_istore_n (lv' := [(2, .int (iI 0)), (0, .ref (aT 0)), (1, .int (iI v1))]) C.1 C.2.1 dX5_becomeOneWord_32 rfl hl (by decide) rfl (fun ls hl => ?_)
  obtain ⟨ex33, hl33, h25⟩ := bd_some h4
  clear h4
  have hK33 : ∀ (H : Heap) (locs : List Loc) (ls : Array Slot), xSt g A s (wT g aT (sT.letters, ex33.1, ex33.2.1, ex33.2.2, up sT.starts 0 0, 1, max 0 (min v1 60), (-1))) H locs → lv_has ls 3 [] → W p l e rmX5_becomeOneWord s m args below meth c H locs 0 0 QQ (F0 m 73 ls []) := by
    intro H locs ls Z hl
    have h26 := h25
    clear h25
    have h27 := Option.some.inj h26
    subst h27
    exact hRet _ _ _ _ Z dX5_becomeOneWord_73
  have hL33 : ∀ (k33 : Nat) (z33 : Int × Row × Row × Row) (H : Heap) (locs : List Loc) (ls : Array Slot), lp (p_X5_becomeOneWord_b33 n (sT.letters, sT.words, sT.places, sT.rests, up sT.starts 0 0, 1, max 0 (min v1 60), (-1))) k33 z33 = some ex33 → xSt g A s (wT g aT (sT.letters, z33.2.1, z33.2.2.1, z33.2.2.2, up sT.starts 0 0, 1, max 0 (min v1 60), (-1))) H locs → lv_has ls 3 [(0, .ref (aT 0)), (2, .int (iI z33.1))] → W p l e rmX5_becomeOneWord s m args below meth c H locs 0 0 QQ (F0 m 33 ls []) := by
    intro k33
    induction k33 with
    | zero => intro z33 H locs ls h; exact (lp_0 h).elim
    | succ k33 ih33 =>
      intro z33 H locs ls h Z hl
      obtain ⟨x33, hb33, hx33⟩ := lp_s h
      clear h
      unfold p_X5_becomeOneWord_b33 at hb33
      refine lv_iload_n C.1 C.2.1 dX5_becomeOneWord_33 rfl (lv_at hl 1 rfl) ?_
      refine lv_aload_n C.1 C.2.1 dX5_becomeOneWord_34 rfl (lv_at hl 0 rfl) ?_
      refine x_get C Z 0 rfl rfl i_X5_X5_becomeOneWord (k := 6) (by decide) (List.mem_of_getElem? (i := 11) rfl) rfl dX5_becomeOneWord_35 ?_
      have q15 := (ck_some hb33).1
      have h16 := (ck_some hb33).2
      clear hb33
      have q17 := (ck_some h16).1
      have h18 := (ck_some h16).2
      clear h16
      refine x_icmp_ge (tgt := 73) C dX5_becomeOneWord_38 (by decide) q15 q17 (fun c19 => ?_) (fun c19 => ?_)
      · have h20 := if_n h18 c19
        clear h18
        cases h20
        have h22 := lp_R hx33
        subst h22
        exact hK33 _ _ _ Z (lv_sub hl [] rfl)
      · have h21 := if_p h18 c19
        clear h18
        refine lv_aload_n C.1 C.2.1 dX5_becomeOneWord_41 rfl (lv_at hl 0 rfl) ?_
        refine x_get C Z 0 rfl rfl i_X5_X5_becomeOneWord (k := 1) (by decide) (List.mem_of_getElem? (i := 12) rfl) rfl dX5_becomeOneWord_42 ?_
        refine lv_iload_n C.1 C.2.1 dX5_becomeOneWord_45 rfl (lv_at hl 1 rfl) ?_
        refine x_iconst C dX5_becomeOneWord_46 ?_
        have q23 := (ix_some h21).1
        have h24 := (ix_some h21).2
        clear h21
        refine x_iast (ws2 := wT g aT (sT.letters, up z33.2.1 z33.1 0, z33.2.2.1, z33.2.2.2, up sT.starts 0 0, 1, max 0 (min v1 60), (-1))) C Z 2 rfl (by decide) q23 dX5_becomeOneWord_47 rfl (fun H locs Z => ?_)
        refine lv_aload_n C.1 C.2.1 dX5_becomeOneWord_48 rfl (lv_at hl 0 rfl) ?_
        refine x_get C Z 0 rfl rfl i_X5_X5_becomeOneWord (k := 2) (by decide) (List.mem_of_getElem? (i := 13) rfl) rfl dX5_becomeOneWord_49 ?_
        refine lv_iload_n C.1 C.2.1 dX5_becomeOneWord_52 rfl (lv_at hl 1 rfl) ?_
        refine lv_iload_n C.1 C.2.1 dX5_becomeOneWord_53 rfl (lv_at hl 1 rfl) ?_
        refine x_iast (ws2 := wT g aT (sT.letters, up z33.2.1 z33.1 0, up z33.2.2.1 z33.1 z33.1, z33.2.2.2, up sT.starts 0 0, 1, max 0 (min v1 60), (-1))) C Z 3 rfl (by decide) q23 dX5_becomeOneWord_54 rfl (fun H locs Z => ?_)
        refine lv_aload_n C.1 C.2.1 dX5_becomeOneWord_55 rfl (lv_at hl 0 rfl) ?_
        refine x_get C Z 0 rfl rfl i_X5_X5_becomeOneWord (k := 3) (by decide) (List.mem_of_getElem? (i := 14) rfl) rfl dX5_becomeOneWord_56 ?_
        refine lv_iload_n C.1 C.2.1 dX5_becomeOneWord_59 rfl (lv_at hl 1 rfl) ?_
        refine lv_aload_n C.1 C.2.1 dX5_becomeOneWord_60 rfl (lv_at hl 0 rfl) ?_
        refine x_get C Z 0 rfl rfl i_X5_X5_becomeOneWord (k := 6) (by decide) (List.mem_of_getElem? (i := 11) rfl) rfl dX5_becomeOneWord_61 ?_
        refine lv_iload_n C.1 C.2.1 dX5_becomeOneWord_64 rfl (lv_at hl 1 rfl) ?_
        refine x_isub C dX5_becomeOneWord_65 ?_
        refine x_iast (ws2 := wT g aT (sT.letters, up z33.2.1 z33.1 0, up z33.2.2.1 z33.1 z33.1, up z33.2.2.2 z33.1 ((max 0 (min v1 60)) - z33.1), up sT.starts 0 0, 1, max 0 (min v1 60), (-1))) C Z 4 rfl (by decide) q23 dX5_becomeOneWord_66 rfl (fun H locs Z => ?_)
        refine x_iinc (lv' := [(2, .int (iI (z33.1 + 1))), (0, .ref (aT 0))]) C dX5_becomeOneWord_67 hl (k := 1) rfl (by decide) rfl (fun ls hl => ?_)
        refine lv_goto (tgt := 33) C.1 C.2.1 dX5_becomeOneWord_70 (by decide) ?_
        cases h24
        exact ih33 (z33.1 + 1, up z33.2.1 z33.1 0, up z33.2.2.1 z33.1 z33.1, up z33.2.2.2 z33.1 ((max 0 (min v1 60)) - z33.1)) _ _ _ (lp_L2 hx33) Z (lv_sub hl [1, 0] rfl)
  exact hL33 n (0, sT.words, sT.places, sT.rests) _ _ _ hl33 Z (lv_sub hl [1, 0] rfl)
