abbrev rmX7_before : Room := { frames := 4, cells := 0, slots := 0, locals := 93 }
theorem yk_X7_before : xY yX7_before RX7 cX7_before 4 (some .int) wsX7_before rmX7_before 0 := ⟨⟨_, rfl⟩, by decide +kernel, rfl, rfl⟩
theorem i_X7_X7_before : ∀ w ∈ u_ws RX7 TX7 23, w ∈ wsX7_before := fun _ h => List.mem_cons_of_mem _ (List.mem_append_right _ h)
set_option maxHeartbeats 4000000 in
set_option maxRecDepth 100000 in
theorem k_X7_before (l : Launch) (g : xG) (n : Nat) (aM : Nat → Nat) (sMv : MvS) (sMp : MpS) (sMt : MtS) (sMs : MsS) (sMc : McS) (sMr : MrS) (r : Int × MtS × MsS) (hf : p_X7_before n sMv sMp sMt sMs = some r) : xMi l yX7_before wsX7_before rmX7_before g [.ref (aM 0)] (wM g aM sMv sMp sMt sMs sMc sMr) (wM g aM sMv sMp r.2.1 r.2.2 sMc sMr) r.1 := by
  refine x_ofW_i (own := RX7) (by decide) rfl rfl (Nat.le_of_ble_eq_true rfl) ?_
  intro p e s m args below meth c ls A QQ C hRet Z hl
  have hl : lv_has ls 4 [(0, .ref (aM 0))] := hl
  unfold p_X7_before at hf
  refine lv_aload_n C.1 C.2.1 dX7_before_0 rfl (lv_at hl 0 rfl) ?_
  obtain ⟨r1, hr1, h2⟩ := bd_some hf
  clear hf
  refine x_callV_i_id (As := []) (rest := []) (q0 := 0) C Z (k_X7_isPattern l g n aM sMv sMp sMt sMs sMc sMr r1 hr1) gX7_before_X7_isPattern yk_X7_isPattern ⟨Nat.le_of_ble_eq_true rfl, Nat.le_of_ble_eq_true rfl⟩ rfl rfl ⟨Nat.zero_le _, Nat.zero_le _⟩ hl.1 rfl (Nat.le_of_ble_eq_true rfl) rfl dX7_before_1 (fun H locs Z => ?_)
  have q3 := (ck_some h2).1
  have h4 := (ck_some h2).2
  clear h2
  refine x_if_ne (tgt := 10) C dX7_before_4 (by decide) q3 (fun c5 => ?_) (fun c5 => ?_)
  · have h6 := if_n h4 c5
    clear h4
    refine lv_aload_n C.1 C.2.1 dX7_before_10 rfl (lv_at hl 0 rfl) ?_
    obtain ⟨r8, hr8, h9⟩ := bd_some h6
    clear h6
    refine x_callV_v_id (As := []) (rest := []) (q0 := 0) C Z (k_X7_layPresent l g n aM sMv sMp sMt sMs sMc sMr r8 hr8) gX7_before_X7_layPresent yk_X7_layPresent ⟨Nat.le_of_ble_eq_true rfl, Nat.le_of_ble_eq_true rfl⟩ rfl rfl ⟨Nat.zero_le _, Nat.zero_le _⟩ hl.1 rfl (Nat.le_of_ble_eq_true rfl) rfl dX7_before_11 (fun H locs Z => ?_)
    refine lv_aload_n C.1 C.2.1 dX7_before_14 rfl (lv_at hl 0 rfl) ?_
    obtain ⟨r10, hr10, h11⟩ := bd_some h9
    clear h9
    refine x_callV_v_id (As := []) (rest := []) (q0 := 0) C Z (k_X7_sort l g n aM sMv sMp r8 sMs sMc sMr r10 hr10) gX7_before_X7_sort yk_X7_sort ⟨Nat.le_of_ble_eq_true rfl, Nat.le_of_ble_eq_true rfl⟩ rfl rfl ⟨Nat.zero_le _, Nat.zero_le _⟩ hl.1 rfl (Nat.le_of_ble_eq_true rfl) rfl dX7_before_15 (fun H locs Z => ?_)
    refine x_iconst C dX7_before_18 ?_
    refine lv_istore_n (lv' := [(1, .int (iI 0)), (0, .ref (aM 0))]) C.1 C.2.1 dX7_before_19 rfl hl (by decide) rfl (fun ls hl => ?_)
    refine x_iconst C dX7_before_20 ?_
    refine lv_istore_n (lv' := [(2, .int (iI 0)), (1, .int (iI 0)), (0, .ref (aM 0))]) C.1 C.2.1 dX7_before_21 rfl hl (by decide) rfl (fun ls hl => ?_)
    obtain ⟨ex22, hl22, h124⟩ := bd_some h11
    clear h11
    have hK22 : ∀ (H : Heap) (locs : List Loc) (ls : Array Slot), xSt g A s (wM g aM sMv sMp r8 r10 sMc sMr) H locs → lv_has ls 4 [(1, .int (iI ex22))] → W p l e rmX7_before s m args below meth c H locs 0 0 QQ (F0 m 90 ls []) := by
      intro H locs ls Z hl
      have h125 := h124
      clear h124
      refine lv_iload_n C.1 C.2.1 dX7_before_90 rfl (lv_at hl 0 rfl) ?_
      have h126 := Option.some.inj h125
      subst h126
      exact hRet _ _ _ _ Z dX7_before_91
    have hL22 : ∀ (k22 : Nat) (z22 : Int × Int) (H : Heap) (locs : List Loc) (ls : Array Slot), lp (p_X7_before_b22 n sMp r8 r10) k22 z22 = some ex22 → xSt g A s (wM g aM sMv sMp r8 r10 sMc sMr) H locs → lv_has ls 4 [(0, .ref (aM 0)), (1, .int (iI z22.1)), (2, .int (iI z22.2))] → W p l e rmX7_before s m args below meth c H locs 0 0 QQ (F0 m 22 ls []) := by
      intro k22
      induction k22 with
      | zero => intro z22 H locs ls h; exact (lp_0 h).elim
      | succ k22 ih22 =>
        intro z22 H locs ls h Z hl
        obtain ⟨x22, hb22, hx22⟩ := lp_s h
        clear h
        unfold p_X7_before_b22 at hb22
        refine lv_iload_n C.1 C.2.1 dX7_before_22 rfl (lv_at hl 2 rfl) ?_
        refine lv_aload_n C.1 C.2.1 dX7_before_23 rfl (lv_at hl 0 rfl) ?_
        refine x_get C Z 0 rfl rfl i_X7_X7_before (k := 12) (by decide) (List.mem_of_getElem? (i := 1) rfl) rfl dX7_before_24 ?_
        refine x_iconst C dX7_before_27 ?_
        refine x_iald C Z 10 rfl (by decide) (by decide) dX7_before_28 ?_
        have q70 := (ck_some hb22).1
        have h71 := (ck_some hb22).2
        clear hb22
        have q72 := (ck_some h71).1
        have h73 := (ck_some h71).2
        clear h71
        refine x_icmp_ge (tgt := 90) C dX7_before_29 (by decide) q70 q72 (fun c74 => ?_) (fun c74 => ?_)
        · have h75 := if_n h73 c74
          clear h73
          cases h75
          have h77 := lp_R hx22
          subst h77
          exact hK22 _ _ _ Z (lv_sub hl [1] rfl)
        · have h76 := if_p h73 c74
          clear h73
          refine lv_aload_n C.1 C.2.1 dX7_before_32 rfl (lv_at hl 0 rfl) ?_
          refine x_get C Z 0 rfl rfl i_X7_X7_before (k := 16) (by decide) (List.mem_of_getElem? (i := 2) rfl) rfl dX7_before_33 ?_
          refine lv_iload_n C.1 C.2.1 dX7_before_36 rfl (lv_at hl 2 rfl) ?_
          have q78 := (ix_some h76).1
          have h79 := (ix_some h76).2
          clear h76
          refine x_iald C Z 14 rfl (by decide) q78 dX7_before_37 ?_
          refine x_iconst C dX7_before_38 ?_
          refine x_iadd C dX7_before_39 ?_
          refine lv_istore_n (lv' := [(3, .int (iI ((r10.near z22.2) + 1))), (0, .ref (aM 0)), (1, .int (iI z22.1)), (2, .int (iI z22.2))]) C.1 C.2.1 dX7_before_40 rfl hl (by decide) rfl (fun ls hl => ?_)
          obtain ⟨ex41, hl41, h122⟩ := bd_some h79
          clear h79
          have hK41 : ∀ (H : Heap) (locs : List Loc) (ls : Array Slot), xSt g A s (wM g aM sMv sMp r8 r10 sMc sMr) H locs → lv_has ls 4 [(0, .ref (aM 0)), (1, .int (iI ex41)), (2, .int (iI z22.2))] → W p l e rmX7_before s m args below meth c H locs 0 0 QQ (F0 m 84 ls []) := by
            intro H locs ls Z hl
            have h123 := h122
            clear h122
            refine x_iinc (lv' := [(2, .int (iI (z22.2 + 1))), (0, .ref (aM 0)), (1, .int (iI ex41))]) C dX7_before_84 hl (k := 2) rfl (by decide) rfl (fun ls hl => ?_)
            refine lv_goto (tgt := 22) C.1 C.2.1 dX7_before_87 (by decide) ?_
            cases h123
            exact ih22 (ex41, z22.2 + 1) _ _ _ (lp_L2 hx22) Z (lv_sub hl [1, 2, 0] rfl)
          have hL41 : ∀ (k41 : Nat) (z41 : Int × Int) (H : Heap) (locs : List Loc) (ls : Array Slot), lp (p_X7_before_b41 n sMp r8 r10 z22.2) k41 z41 = some ex41 → xSt g A s (wM g aM sMv sMp r8 r10 sMc sMr) H locs → lv_has ls 4 [(0, .ref (aM 0)), (1, .int (iI z41.1)), (2, .int (iI z22.2)), (3, .int (iI z41.2))] → W p l e rmX7_before s m args below meth c H locs 0 0 QQ (F0 m 41 ls []) := by
            intro k41
            induction k41 with
            | zero => intro z41 H locs ls h; exact (lp_0 h).elim
            | succ k41 ih41 =>
              intro z41 H locs ls h Z hl
              obtain ⟨x41, hb41, hx41⟩ := lp_s h
              clear h
              unfold p_X7_before_b41 at hb41
              refine lv_iload_n C.1 C.2.1 dX7_before_41 rfl (lv_at hl 3 rfl) ?_
              refine lv_aload_n C.1 C.2.1 dX7_before_42 rfl (lv_at hl 0 rfl) ?_
              refine x_iconst C dX7_before_43 ?_
              refine lv_aload_n C.1 C.2.1 dX7_before_44 rfl (lv_at hl 0 rfl) ?_
              refine x_get C Z 0 rfl rfl i_X7_X7_before (k := 15) (by decide) (List.mem_of_getElem? (i := 3) rfl) rfl dX7_before_45 ?_
              refine lv_iload_n C.1 C.2.1 dX7_before_48 rfl (lv_at hl 2 rfl) ?_
              have q101 := (ix_some hb41).1
              have h102 := (ix_some hb41).2
              clear hb41
              refine x_iald C Z 13 rfl (by decide) q101 dX7_before_49 ?_
              obtain ⟨r103, hr103, h104⟩ := bd_some h102
              clear h102
              refine x_callV_i_id (As := [.int (iI 0), .int (iI (r10.sorted z22.2))]) (rest := [.int (iI z41.2)]) (q0 := 0) C Z (k_X7_rest l g n aM sMv sMp r8 r10 sMc sMr 0 (r10.sorted z22.2) r103 hr103) gX7_before_X7_rest yk_X7_rest ⟨Nat.le_of_ble_eq_true rfl, Nat.le_of_ble_eq_true rfl⟩ rfl rfl ⟨Nat.zero_le _, Nat.zero_le _⟩ hl.1 rfl (Nat.le_of_ble_eq_true rfl) rfl dX7_before_50 (fun H locs Z => ?_)
              have q105 := (ck_some h104).1
              have h106 := (ck_some h104).2
              clear h104
              have q107 := (ck_some h106).1
              have h108 := (ck_some h106).2
              clear h106
              refine x_icmp_gt (tgt := 84) C dX7_before_53 (by decide) q105 q107 (fun c109 => ?_) (fun c109 => ?_)
              · have h110 := if_p h108 c109
                clear h108
                cases h110
                have h112 := lp_R hx41
                subst h112
                exact hK41 _ _ _ Z (lv_sub hl [0, 1, 2] rfl)
              · have h111 := if_n h108 c109
                clear h108
                refine lv_iload_n C.1 C.2.1 dX7_before_56 rfl (lv_at hl 1 rfl) ?_
                refine lv_aload_n C.1 C.2.1 dX7_before_57 rfl (lv_at hl 0 rfl) ?_
                refine lv_aload_n C.1 C.2.1 dX7_before_58 rfl (lv_at hl 0 rfl) ?_
                refine x_get C Z 0 rfl rfl i_X7_X7_before (k := 15) (by decide) (List.mem_of_getElem? (i := 3) rfl) rfl dX7_before_59 ?_
                refine lv_iload_n C.1 C.2.1 dX7_before_62 rfl (lv_at hl 2 rfl) ?_
                refine x_iald C Z 13 rfl (by decide) q101 dX7_before_63 ?_
                refine lv_iload_n C.1 C.2.1 dX7_before_64 rfl (lv_at hl 3 rfl) ?_
                obtain ⟨r115, hr115, h116⟩ := bd_some h111
                clear h111
                refine x_callV_i_id (As := [.int (iI (r10.sorted z22.2)), .int (iI z41.2)]) (rest := [.int (iI z41.1)]) (q0 := 0) C Z (k_X7_comesBefore l g n aM sMv sMp r8 r10 sMc sMr (r10.sorted z22.2) z41.2 r115 hr115) gX7_before_X7_comesBefore yk_X7_comesBefore ⟨Nat.le_of_ble_eq_true rfl, Nat.le_of_ble_eq_true rfl⟩ rfl rfl ⟨Nat.zero_le _, Nat.zero_le _⟩ hl.1 rfl (Nat.le_of_ble_eq_true rfl) rfl dX7_before_65 (fun H locs Z => ?_)
                have q117 := (ck_some h116).1
                have h118 := (ck_some h116).2
                clear h116
                refine x_if_eq (tgt := 75) C dX7_before_68 (by decide) q117 (fun c119 => ?_) (fun c119 => ?_)
                · have h120 := if_p h118 c119
                  clear h118
                  refine x_iconst C dX7_before_75 ?_
                  refine x_iadd C dX7_before_76 ?_
                  refine lv_istore_n (lv' := [(1, .int (iI (z41.1 + 0))), (0, .ref (aM 0)), (2, .int (iI z22.2)), (3, .int (iI z41.2))]) C.1 C.2.1 dX7_before_77 rfl hl (by decide) rfl (fun ls hl => ?_)
                  refine x_iinc (lv' := [(3, .int (iI (z41.2 + 1))), (1, .int (iI (z41.1 + 0))), (0, .ref (aM 0)), (2, .int (iI z22.2))]) C dX7_before_78 hl (k := 3) rfl (by decide) rfl (fun ls hl => ?_)
                  refine lv_goto (tgt := 41) C.1 C.2.1 dX7_before_81 (by decide) ?_
                  cases h120
                  exact ih41 (z41.1 + 0, z41.2 + 1) _ _ _ (lp_L2 hx41) Z (lv_sub hl [2, 1, 3, 0] rfl)
                · have h121 := if_n h118 c119
                  clear h118
                  refine x_iconst C dX7_before_71 ?_
                  refine lv_goto (tgt := 76) C.1 C.2.1 dX7_before_72 (by decide) ?_
                  refine x_iadd C dX7_before_76 ?_
                  refine lv_istore_n (lv' := [(1, .int (iI (z41.1 + 1))), (0, .ref (aM 0)), (2, .int (iI z22.2)), (3, .int (iI z41.2))]) C.1 C.2.1 dX7_before_77 rfl hl (by decide) rfl (fun ls hl => ?_)
                  refine x_iinc (lv' := [(3, .int (iI (z41.2 + 1))), (1, .int (iI (z41.1 + 1))), (0, .ref (aM 0)), (2, .int (iI z22.2))]) C dX7_before_78 hl (k := 3) rfl (by decide) rfl (fun ls hl => ?_)
                  refine lv_goto (tgt := 41) C.1 C.2.1 dX7_before_81 (by decide) ?_
                  cases h121
                  exact ih41 (z41.1 + 1, z41.2 + 1) _ _ _ (lp_L2 hx41) Z (lv_sub hl [2, 1, 3, 0] rfl)
          exact hL41 n (z22.1, (r10.near z22.2) + 1) _ _ _ hl41 Z (lv_sub hl [1, 2, 3, 0] rfl)
    exact hL22 n (0, 0) _ _ _ hl22 Z (lv_sub hl [2, 1, 0] rfl)
  · have h7 := if_p h4 c5
    clear h4
    refine x_bipush C dX7_before_7 (by decide) ?_
    have h127 := Option.some.inj h7
    subst h127
    exact hRet _ _ _ _ Z dX7_before_9
abbrev rmX7_isClass : Room := { frames := 5, cells := 0, slots := 0, locals := 120 }
theorem yk_X7_isClass : xY yX7_isClass RX7 cX7_isClass 2 (some .boolean) wsX7_isClass rmX7_isClass 1 := ⟨⟨_, rfl⟩, by decide +kernel, rfl, rfl⟩
theorem i_X7_X7_isClass : ∀ w ∈ u_ws RX7 TX7 23, w ∈ wsX7_isClass := fun _ h => List.mem_cons_of_mem _ (List.mem_append_right _ h)
set_option maxHeartbeats 4000000 in
set_option maxRecDepth 100000 in
theorem k_X7_isClass (l : Launch) (g : xG) (n : Nat) (aM : Nat → Nat) (sMv : MvS) (sMp : MpS) (sMt : MtS) (sMs : MsS) (sMc : McS) (sMr : MrS) (v1 : Int) (r : Int × MtS × McS) (hf : p_X7_isClass n sMv sMt sMc v1 = some r) : xMi l yX7_isClass wsX7_isClass rmX7_isClass g [.ref (aM 0), .int (iI v1)] (wM g aM sMv sMp sMt sMs sMc sMr) (wM g aM sMv sMp r.2.1 sMs r.2.2 sMr) r.1 := by
  refine x_ofW_z (own := RX7) (by decide) rfl rfl (Nat.le_of_ble_eq_true rfl) ?_
  intro p e s m args below meth c ls A QQ C hRet Z hl
  have hl : lv_has ls 2 [(0, .ref (aM 0)), (1, .int (iI v1))] := hl
  unfold p_X7_isClass at hf
  refine lv_aload_n C.1 C.2.1 dX7_isClass_0 rfl (lv_at hl 0 rfl) ?_
  obtain ⟨r1, hr1, h2⟩ := bd_some hf
  clear hf
  refine x_callV_v_id (As := []) (rest := []) (q0 := 0) C Z (k_X7_layPresent l g n aM sMv sMp sMt sMs sMc sMr r1 hr1) gX7_isClass_X7_layPresent yk_X7_layPresent ⟨Nat.le_of_ble_eq_true rfl, Nat.le_of_ble_eq_true rfl⟩ rfl rfl ⟨Nat.zero_le _, Nat.zero_le _⟩ hl.1 rfl (Nat.le_of_ble_eq_true rfl) rfl dX7_isClass_1 (fun H locs Z => ?_)
  refine lv_aload_n C.1 C.2.1 dX7_isClass_4 rfl (lv_at hl 0 rfl) ?_
  obtain ⟨r3, hr3, h4⟩ := bd_some h2
  clear h2
  refine x_callV_v_id (As := []) (rest := []) (q0 := 0) C Z (k_X7_layClasses l g n aM sMv sMp r1 sMs sMc sMr r3 hr3) gX7_isClass_X7_layClasses yk_X7_layClasses ⟨Nat.le_of_ble_eq_true rfl, Nat.le_of_ble_eq_true rfl⟩ rfl rfl ⟨Nat.zero_le _, Nat.zero_le _⟩ hl.1 rfl (Nat.le_of_ble_eq_true rfl) rfl dX7_isClass_5 (fun H locs Z => ?_)
  refine lv_iload_n C.1 C.2.1 dX7_isClass_8 rfl (lv_at hl 1 rfl) ?_
  refine x_iconst C dX7_isClass_9 ?_
  refine lv_aload_n C.1 C.2.1 dX7_isClass_10 rfl (lv_at hl 0 rfl) ?_
  refine x_get C Z 0 rfl rfl i_X7_X7_isClass (k := 21) (by decide) (List.mem_of_getElem? (i := 1) rfl) rfl dX7_isClass_11 ?_
  refine x_iconst C dX7_isClass_14 ?_
  refine x_isub C dX7_isClass_15 ?_
  obtain ⟨r5, hr5, h6⟩ := bd_some h4
  clear h4
  refine x_callS_i (As := [.int (iI v1), .int (iI 0), .int (iI (r3.classes - 1))]) (rest := []) C Z (k_X7_in l g n v1 0 (r3.classes - 1) r5 hr5) gX7_isClass_X7_in yk_X7_in ⟨Nat.le_of_ble_eq_true rfl, Nat.le_of_ble_eq_true rfl⟩ ⟨Nat.zero_le _, Nat.zero_le _⟩ hl.1 rfl (Nat.le_of_ble_eq_true rfl) rfl dX7_isClass_16 (fun H locs Z => ?_)
  have q7 := (bk_some h6).1
  have h8 := (bk_some h6).2
  clear h6
  have h9 := Option.some.inj h8
  subst h9
  exact hRet _ _ _ _ (x_bool q7) Z dX7_isClass_19
abbrev rmX7_firstOf : Room := { frames := 0, cells := 0, slots := 0, locals := 0 }
theorem yk_X7_firstOf : xY yX7_firstOf RX7 cX7_firstOf 2 (some .int) wsX7_firstOf rmX7_firstOf 1 := ⟨⟨_, rfl⟩, by decide +kernel, rfl, rfl⟩
theorem i_X7_X7_firstOf : ∀ w ∈ u_ws RX7 TX7 23, w ∈ wsX7_firstOf := fun _ h => List.mem_cons_of_mem _ (List.mem_append_right _ h)
set_option maxHeartbeats 4000000 in
set_option maxRecDepth 100000 in
theorem k_X7_firstOf (l : Launch) (g : xG) (n : Nat) (aM : Nat → Nat) (sMv : MvS) (sMp : MpS) (sMt : MtS) (sMs : MsS) (sMc : McS) (sMr : MrS) (v1 : Int) (r : Int) (hf : p_X7_firstOf sMc v1 = some r) : xMi l yX7_firstOf wsX7_firstOf rmX7_firstOf g [.ref (aM 0), .int (iI v1)] (wM g aM sMv sMp sMt sMs sMc sMr) (wM g aM sMv sMp sMt sMs sMc sMr) r := by
  refine x_ofW_i (own := RX7) (by decide) rfl rfl (Nat.le_of_ble_eq_true rfl) ?_
  intro p e s m args below meth c ls A QQ C hRet Z hl
  have hl : lv_has ls 2 [(0, .ref (aM 0)), (1, .int (iI v1))] := hl
  unfold p_X7_firstOf at hf
  refine lv_aload_n C.1 C.2.1 dX7_firstOf_0 rfl (lv_at hl 0 rfl) ?_
  refine x_get C Z 0 rfl rfl i_X7_X7_firstOf (k := 17) (by decide) (List.mem_of_getElem? (i := 1) rfl) rfl dX7_firstOf_1 ?_
  refine lv_iload_n C.1 C.2.1 dX7_firstOf_4 rfl (lv_at hl 1 rfl) ?_
  have q1 := (ix_some hf).1
  have h2 := (ix_some hf).2
  clear hf
  refine x_iald C Z 15 rfl (by decide) q1 dX7_firstOf_5 ?_
  refine lv_aload_n C.1 C.2.1 dX7_firstOf_6 rfl (lv_at hl 0 rfl) ?_
  refine x_get C Z 0 rfl rfl i_X7_X7_firstOf (k := 19) (by decide) (List.mem_of_getElem? (i := 2) rfl) rfl dX7_firstOf_7 ?_
  refine lv_iload_n C.1 C.2.1 dX7_firstOf_10 rfl (lv_at hl 1 rfl) ?_
  refine x_iald C Z 17 rfl (by decide) q1 dX7_firstOf_11 ?_
  refine x_isub C dX7_firstOf_12 ?_
  refine x_iconst C dX7_firstOf_13 ?_
  refine x_iadd C dX7_firstOf_14 ?_
  have h5 := Option.some.inj h2
  subst h5
  exact hRet _ _ _ _ Z dX7_firstOf_15
abbrev rmX7_wordsOfClass : Room := { frames := 3, cells := 0, slots := 0, locals := 71 }
theorem yk_X7_wordsOfClass : xY yX7_wordsOfClass RX7 cX7_wordsOfClass 4 (some .int) wsX7_wordsOfClass rmX7_wordsOfClass 1 := ⟨⟨_, rfl⟩, by decide +kernel, rfl, rfl⟩
theorem i_X7_X7_wordsOfClass : ∀ w ∈ u_ws RX7 TX7 23, w ∈ wsX7_wordsOfClass := fun _ h => List.mem_cons_of_mem _ (List.mem_append_right _ h)
set_option maxHeartbeats 4000000 in
set_option maxRecDepth 100000 in
theorem k_X7_wordsOfClass (l : Launch) (g : xG) (n : Nat) (aM : Nat → Nat) (sMv : MvS) (sMp : MpS) (sMt : MtS) (sMs : MsS) (sMc : McS) (sMr : MrS) (v1 : Int) (r : Int) (hf : p_X7_wordsOfClass n sMt sMc v1 = some r) : xMi l yX7_wordsOfClass wsX7_wordsOfClass rmX7_wordsOfClass g [.ref (aM 0), .int (iI v1)] (wM g aM sMv sMp sMt sMs sMc sMr) (wM g aM sMv sMp sMt sMs sMc sMr) r := by
  refine x_ofW_i (own := RX7) (by decide) rfl rfl (Nat.le_of_ble_eq_true rfl) ?_
  intro p e s m args below meth c ls A QQ C hRet Z hl
  have hl : lv_has ls 4 [(0, .ref (aM 0)), (1, .int (iI v1))] := hl
  unfold p_X7_wordsOfClass at hf
  refine x_iconst C dX7_wordsOfClass_0 ?_
  refine lv_istore_n (lv' := [(2, .int (iI 0)), (0, .ref (aM 0)), (1, .int (iI v1))]) C.1 C.2.1 dX7_wordsOfClass_1 rfl hl (by decide) rfl (fun ls hl => ?_)
  refine x_iconst C dX7_wordsOfClass_2 ?_
  refine lv_istore_n (lv' := [(3, .int (iI 0)), (2, .int (iI 0)), (0, .ref (aM 0)), (1, .int (iI v1))]) C.1 C.2.1 dX7_wordsOfClass_3 rfl hl (by decide) rfl (fun ls hl => ?_)
  obtain ⟨ex4, hl4, h47⟩ := bd_some hf
  clear hf
  have hK4 : ∀ (H : Heap) (locs : List Loc) (ls : Array Slot), xSt g A s (wM g aM sMv sMp sMt sMs sMc sMr) H locs → lv_has ls 4 [(2, .int (iI ex4))] → W p l e rmX7_wordsOfClass s m args below meth c H locs 0 0 QQ (F0 m 54 ls []) := by
    intro H locs ls Z hl
    have h48 := h47
    clear h47
    refine lv_iload_n C.1 C.2.1 dX7_wordsOfClass_54 rfl (lv_at hl 0 rfl) ?_
    have h49 := Option.some.inj h48
    subst h49
    exact hRet _ _ _ _ Z dX7_wordsOfClass_55
  have hL4 : ∀ (k4 : Nat) (z4 : Int × Int) (H : Heap) (locs : List Loc) (ls : Array Slot), lp (p_X7_wordsOfClass_b4 n sMt sMc v1) k4 z4 = some ex4 → xSt g A s (wM g aM sMv sMp sMt sMs sMc sMr) H locs → lv_has ls 4 [(0, .ref (aM 0)), (1, .int (iI v1)), (2, .int (iI z4.1)), (3, .int (iI z4.2))] → W p l e rmX7_wordsOfClass s m args below meth c H locs 0 0 QQ (F0 m 4 ls []) := by
    intro k4
    induction k4 with
    | zero => intro z4 H locs ls h; exact (lp_0 h).elim
    | succ k4 ih4 =>
      intro z4 H locs ls h Z hl
      obtain ⟨x4, hb4, hx4⟩ := lp_s h
      clear h
      unfold p_X7_wordsOfClass_b4 at hb4
      refine lv_iload_n C.1 C.2.1 dX7_wordsOfClass_4 rfl (lv_at hl 3 rfl) ?_
      refine lv_aload_n C.1 C.2.1 dX7_wordsOfClass_5 rfl (lv_at hl 0 rfl) ?_
      refine x_get C Z 0 rfl rfl i_X7_X7_wordsOfClass (k := 12) (by decide) (List.mem_of_getElem? (i := 1) rfl) rfl dX7_wordsOfClass_6 ?_
      refine x_iconst C dX7_wordsOfClass_9 ?_
      refine x_iald C Z 10 rfl (by decide) (by decide) dX7_wordsOfClass_10 ?_
      have q26 := (ck_some hb4).1
      have h27 := (ck_some hb4).2
      clear hb4
      have q28 := (ck_some h27).1
      have h29 := (ck_some h27).2
      clear h27
      refine x_icmp_ge (tgt := 54) C dX7_wordsOfClass_11 (by decide) q26 q28 (fun c30 => ?_) (fun c30 => ?_)
      · have h31 := if_n h29 c30
        clear h29
        cases h31
        have h33 := lp_R hx4
        subst h33
        exact hK4 _ _ _ Z (lv_sub hl [2] rfl)
      · have h32 := if_p h29 c30
        clear h29
        refine lv_iload_n C.1 C.2.1 dX7_wordsOfClass_14 rfl (lv_at hl 2 rfl) ?_
        refine lv_aload_n C.1 C.2.1 dX7_wordsOfClass_15 rfl (lv_at hl 0 rfl) ?_
        refine lv_aload_n C.1 C.2.1 dX7_wordsOfClass_16 rfl (lv_at hl 0 rfl) ?_
        refine lv_iload_n C.1 C.2.1 dX7_wordsOfClass_17 rfl (lv_at hl 1 rfl) ?_
        obtain ⟨r34, hr34, h35⟩ := bd_some h32
        clear h32
        refine x_callV_i_id (As := [.int (iI v1)]) (rest := [.ref (aM 0), .int (iI z4.1)]) (q0 := 0) C Z (k_X7_firstOf l g n aM sMv sMp sMt sMs sMc sMr v1 r34 hr34) gX7_wordsOfClass_X7_firstOf yk_X7_firstOf ⟨Nat.le_of_ble_eq_true rfl, Nat.le_of_ble_eq_true rfl⟩ rfl rfl ⟨Nat.zero_le _, Nat.zero_le _⟩ hl.1 rfl (Nat.le_of_ble_eq_true rfl) rfl dX7_wordsOfClass_18 (fun H locs Z => ?_)
        refine lv_iload_n C.1 C.2.1 dX7_wordsOfClass_21 rfl (lv_at hl 3 rfl) ?_
        refine lv_aload_n C.1 C.2.1 dX7_wordsOfClass_22 rfl (lv_at hl 0 rfl) ?_
        refine x_get C Z 0 rfl rfl i_X7_X7_wordsOfClass (k := 19) (by decide) (List.mem_of_getElem? (i := 2) rfl) rfl dX7_wordsOfClass_23 ?_
        refine lv_iload_n C.1 C.2.1 dX7_wordsOfClass_26 rfl (lv_at hl 1 rfl) ?_
        have q36 := (ix_some h35).1
        have h37 := (ix_some h35).2
        clear h35
        refine x_iald C Z 17 rfl (by decide) q36 dX7_wordsOfClass_27 ?_
        obtain ⟨r38, hr38, h39⟩ := bd_some h37
        clear h37
        refine x_callV_i_id (As := [.int (iI r34), .int (iI z4.2), .int (iI (sMc.classLong v1))]) (rest := [.int (iI z4.1)]) (q0 := 0) C Z (k_X7_isSame l g n aM sMv sMp sMt sMs sMc sMr r34 z4.2 (sMc.classLong v1) r38 hr38) gX7_wordsOfClass_X7_isSame yk_X7_isSame ⟨Nat.le_of_ble_eq_true rfl, Nat.le_of_ble_eq_true rfl⟩ rfl rfl ⟨Nat.zero_le _, Nat.zero_le _⟩ hl.1 rfl (Nat.le_of_ble_eq_true rfl) rfl dX7_wordsOfClass_28 (fun H locs Z => ?_)
        have q40 := (ck_some h39).1
        have h41 := (ck_some h39).2
        clear h39
        refine x_if_eq (tgt := 45) C dX7_wordsOfClass_31 (by decide) q40 (fun c42 => ?_) (fun c42 => ?_)
        · have h43 := if_p h41 c42
          clear h41
          refine x_iconst C dX7_wordsOfClass_45 ?_
          refine x_ior C dX7_wordsOfClass_46 ?_
          refine lv_istore_n (lv' := [(2, .int (iI (bior z4.1 0))), (0, .ref (aM 0)), (1, .int (iI v1)), (3, .int (iI z4.2))]) C.1 C.2.1 dX7_wordsOfClass_47 rfl hl (by decide) rfl (fun ls hl => ?_)
          refine x_iinc (lv' := [(3, .int (iI (z4.2 + 1))), (2, .int (iI (bior z4.1 0))), (0, .ref (aM 0)), (1, .int (iI v1))]) C dX7_wordsOfClass_48 hl (k := 3) rfl (by decide) rfl (fun ls hl => ?_)
          refine lv_goto (tgt := 4) C.1 C.2.1 dX7_wordsOfClass_51 (by decide) ?_
          cases h43
          exact ih4 (bior z4.1 0, z4.2 + 1) _ _ _ (lp_L2 hx4) Z (lv_sub hl [2, 3, 1, 0] rfl)
        · have h44 := if_n h41 c42
          clear h41
          refine x_iconst C dX7_wordsOfClass_34 ?_
          refine lv_aload_n C.1 C.2.1 dX7_wordsOfClass_35 rfl (lv_at hl 0 rfl) ?_
          refine x_get C Z 0 rfl rfl i_X7_X7_wordsOfClass (k := 9) (by decide) (List.mem_of_getElem? (i := 3) rfl) rfl dX7_wordsOfClass_36 ?_
          refine lv_iload_n C.1 C.2.1 dX7_wordsOfClass_39 rfl (lv_at hl 3 rfl) ?_
          have q45 := (ix_some h44).1
          have h46 := (ix_some h44).2
          clear h44
          refine x_iald C Z 7 rfl (by decide) q45 dX7_wordsOfClass_40 ?_
          refine x_ishl C dX7_wordsOfClass_41 ?_
          refine lv_goto (tgt := 46) C.1 C.2.1 dX7_wordsOfClass_42 (by decide) ?_
          refine x_ior C dX7_wordsOfClass_46 ?_
          refine lv_istore_n (lv' := [(2, .int (iI (bior z4.1 (bishl 1 (sMt.wordOf z4.2))))), (0, .ref (aM 0)), (1, .int (iI v1)), (3, .int (iI z4.2))]) C.1 C.2.1 dX7_wordsOfClass_47 rfl hl (by decide) rfl (fun ls hl => ?_)
          refine x_iinc (lv' := [(3, .int (iI (z4.2 + 1))), (2, .int (iI (bior z4.1 (bishl 1 (sMt.wordOf z4.2))))), (0, .ref (aM 0)), (1, .int (iI v1))]) C dX7_wordsOfClass_48 hl (k := 3) rfl (by decide) rfl (fun ls hl => ?_)
          refine lv_goto (tgt := 4) C.1 C.2.1 dX7_wordsOfClass_51 (by decide) ?_
          cases h46
          exact ih4 (bior z4.1 (bishl 1 (sMt.wordOf z4.2)), z4.2 + 1) _ _ _ (lp_L2 hx4) Z (lv_sub hl [2, 3, 1, 0] rfl)
  exact hL4 n (0, 0) _ _ _ hl4 Z (lv_sub hl [2, 3, 1, 0] rfl)
abbrev rmX7_nextOf : Room := { frames := 3, cells := 0, slots := 0, locals := 71 }
theorem yk_X7_nextOf : xY yX7_nextOf RX7 cX7_nextOf 5 (some .int) wsX7_nextOf rmX7_nextOf 2 := ⟨⟨_, rfl⟩, by decide +kernel, rfl, rfl⟩
theorem i_X7_X7_nextOf : ∀ w ∈ u_ws RX7 TX7 23, w ∈ wsX7_nextOf := fun _ h => List.mem_cons_of_mem _ (List.mem_append_right _ h)
set_option maxHeartbeats 4000000 in
set_option maxRecDepth 100000 in
theorem k_X7_nextOf (l : Launch) (g : xG) (n : Nat) (aM : Nat → Nat) (sMv : MvS) (sMp : MpS) (sMt : MtS) (sMs : MsS) (sMc : McS) (sMr : MrS) (v1 : Int) (v2 : Int) (r : Int) (hf : p_X7_nextOf n sMt v1 v2 = some r) : xMi l yX7_nextOf wsX7_nextOf rmX7_nextOf g [.ref (aM 0), .int (iI v1), .int (iI v2)] (wM g aM sMv sMp sMt sMs sMc sMr) (wM g aM sMv sMp sMt sMs sMc sMr) r := by
  refine x_ofW_i (own := RX7) (by decide) rfl rfl (Nat.le_of_ble_eq_true rfl) ?_
  intro p e s m args below meth c ls A QQ C hRet Z hl
  have hl : lv_has ls 5 [(0, .ref (aM 0)), (1, .int (iI v1)), (2, .int (iI v2))] := hl
  unfold p_X7_nextOf at hf
  refine x_iconst C dX7_nextOf_0 ?_
  refine lv_istore_n (lv' := [(3, .int (iI 0)), (0, .ref (aM 0)), (1, .int (iI v1)), (2, .int (iI v2))]) C.1 C.2.1 dX7_nextOf_1 rfl hl (by decide) rfl (fun ls hl => ?_)
  refine x_iconst C dX7_nextOf_2 ?_
  refine lv_istore (lv' := [(4, .int (iI 0)), (3, .int (iI 0)), (0, .ref (aM 0)), (1, .int (iI v1)), (2, .int (iI v2))]) C.1 C.2.1 dX7_nextOf_3 hl (by decide) rfl (fun ls hl => ?_)
  obtain ⟨ex5, hl5, h57⟩ := bd_some hf
  clear hf
  have hK5 : ∀ (H : Heap) (locs : List Loc) (ls : Array Slot), xSt g A s (wM g aM sMv sMp sMt sMs sMc sMr) H locs → lv_has ls 5 [(3, .int (iI ex5))] → W p l e rmX7_nextOf s m args below meth c H locs 0 0 QQ (F0 m 61 ls []) := by
    intro H locs ls Z hl
    have h58 := h57
    clear h57
    refine lv_iload_n C.1 C.2.1 dX7_nextOf_61 rfl (lv_at hl 0 rfl) ?_
    have h59 := Option.some.inj h58
    subst h59
    exact hRet _ _ _ _ Z dX7_nextOf_62
  have hL5 : ∀ (k5 : Nat) (z5 : Int × Int) (H : Heap) (locs : List Loc) (ls : Array Slot), lp (p_X7_nextOf_b5 n sMt v1 v2) k5 z5 = some ex5 → xSt g A s (wM g aM sMv sMp sMt sMs sMc sMr) H locs → lv_has ls 5 [(0, .ref (aM 0)), (1, .int (iI v1)), (2, .int (iI v2)), (3, .int (iI z5.1)), (4, .int (iI z5.2))] → W p l e rmX7_nextOf s m args below meth c H locs 0 0 QQ (F0 m 5 ls []) := by
    intro k5
    induction k5 with
    | zero => intro z5 H locs ls h; exact (lp_0 h).elim
    | succ k5 ih5 =>
      intro z5 H locs ls h Z hl
      obtain ⟨x5, hb5, hx5⟩ := lp_s h
      clear h
      unfold p_X7_nextOf_b5 at hb5
      refine lv_iload C.1 C.2.1 dX7_nextOf_5 (lv_at hl 4 rfl) ?_
      refine lv_aload_n C.1 C.2.1 dX7_nextOf_7 rfl (lv_at hl 0 rfl) ?_
      refine x_get C Z 0 rfl rfl i_X7_X7_nextOf (k := 12) (by decide) (List.mem_of_getElem? (i := 1) rfl) rfl dX7_nextOf_8 ?_
      refine x_iconst C dX7_nextOf_11 ?_
      refine x_iald C Z 10 rfl (by decide) (by decide) dX7_nextOf_12 ?_
      have q31 := (ck_some hb5).1
      have h32 := (ck_some hb5).2
      clear hb5
      have q33 := (ck_some h32).1
      have h34 := (ck_some h32).2
      clear h32
      refine x_icmp_ge (tgt := 61) C dX7_nextOf_13 (by decide) q31 q33 (fun c35 => ?_) (fun c35 => ?_)
      · have h36 := if_n h34 c35
        clear h34
        cases h36
        have h38 := lp_R hx5
        subst h38
        exact hK5 _ _ _ Z (lv_sub hl [3] rfl)
      · have h37 := if_p h34 c35
        clear h34
        refine lv_iload_n C.1 C.2.1 dX7_nextOf_16 rfl (lv_at hl 3 rfl) ?_
        refine lv_aload_n C.1 C.2.1 dX7_nextOf_17 rfl (lv_at hl 0 rfl) ?_
        refine lv_iload_n C.1 C.2.1 dX7_nextOf_18 rfl (lv_at hl 1 rfl) ?_
        refine lv_iload C.1 C.2.1 dX7_nextOf_19 (lv_at hl 4 rfl) ?_
        refine lv_iload_n C.1 C.2.1 dX7_nextOf_21 rfl (lv_at hl 2 rfl) ?_
        obtain ⟨r39, hr39, h40⟩ := bd_some h37
        clear h37
        refine x_callV_i_id (As := [.int (iI v1), .int (iI z5.2), .int (iI v2)]) (rest := [.int (iI z5.1)]) (q0 := 0) C Z (k_X7_isSame l g n aM sMv sMp sMt sMs sMc sMr v1 z5.2 v2 r39 hr39) gX7_nextOf_X7_isSame yk_X7_isSame ⟨Nat.le_of_ble_eq_true rfl, Nat.le_of_ble_eq_true rfl⟩ rfl rfl ⟨Nat.zero_le _, Nat.zero_le _⟩ hl.1 rfl (Nat.le_of_ble_eq_true rfl) rfl dX7_nextOf_22 (fun H locs Z => ?_)
        have q41 := (ck_some h40).1
        have h42 := (ck_some h40).2
        clear h40
        refine x_if_eq (tgt := 52) C dX7_nextOf_25 (by decide) q41 (fun c43 => ?_) (fun c43 => ?_)
        · have h44 := if_p h42 c43
          clear h42
          refine x_iconst C dX7_nextOf_52 ?_
          refine x_ior C dX7_nextOf_53 ?_
          refine lv_istore_n (lv' := [(3, .int (iI (bior z5.1 0))), (0, .ref (aM 0)), (1, .int (iI v1)), (2, .int (iI v2)), (4, .int (iI z5.2))]) C.1 C.2.1 dX7_nextOf_54 rfl hl (by decide) rfl (fun ls hl => ?_)
          refine x_iinc (lv' := [(4, .int (iI (z5.2 + 1))), (3, .int (iI (bior z5.1 0))), (0, .ref (aM 0)), (1, .int (iI v1)), (2, .int (iI v2))]) C dX7_nextOf_55 hl (k := 4) rfl (by decide) rfl (fun ls hl => ?_)
          refine lv_goto (tgt := 5) C.1 C.2.1 dX7_nextOf_58 (by decide) ?_
          cases h44
          exact ih5 (bior z5.1 0, z5.2 + 1) _ _ _ (lp_L2 hx5) Z (lv_sub hl [2, 3, 4, 1, 0] rfl)
        · have h45 := if_n h42 c43
          clear h42
          refine lv_aload_n C.1 C.2.1 dX7_nextOf_28 rfl (lv_at hl 0 rfl) ?_
          refine x_iconst C dX7_nextOf_29 ?_
          refine lv_iload C.1 C.2.1 dX7_nextOf_30 (lv_at hl 4 rfl) ?_
          obtain ⟨r46, hr46, h47⟩ := bd_some h45
          clear h45
          refine x_callV_i_id (As := [.int (iI 0), .int (iI z5.2)]) (rest := [.int (iI z5.1)]) (q0 := 0) C Z (k_X7_rest l g n aM sMv sMp sMt sMs sMc sMr 0 z5.2 r46 hr46) gX7_nextOf_X7_rest yk_X7_rest ⟨Nat.le_of_ble_eq_true rfl, Nat.le_of_ble_eq_true rfl⟩ rfl rfl ⟨Nat.zero_le _, Nat.zero_le _⟩ hl.1 rfl (Nat.le_of_ble_eq_true rfl) rfl dX7_nextOf_32 (fun H locs Z => ?_)
          refine lv_iload_n C.1 C.2.1 dX7_nextOf_35 rfl (lv_at hl 2 rfl) ?_
          have q48 := (ck_some h47).1
          have h49 := (ck_some h47).2
          clear h47
          have q50 := (ck_some h49).1
          have h51 := (ck_some h49).2
          clear h49
          refine x_icmp_le (tgt := 52) C dX7_nextOf_36 (by decide) q48 q50 (fun c52 => ?_) (fun c52 => ?_)
          · have h53 := if_n h51 c52
            clear h51
            refine x_iconst C dX7_nextOf_52 ?_
            refine x_ior C dX7_nextOf_53 ?_
            refine lv_istore_n (lv' := [(3, .int (iI (bior z5.1 0))), (0, .ref (aM 0)), (1, .int (iI v1)), (2, .int (iI v2)), (4, .int (iI z5.2))]) C.1 C.2.1 dX7_nextOf_54 rfl hl (by decide) rfl (fun ls hl => ?_)
            refine x_iinc (lv' := [(4, .int (iI (z5.2 + 1))), (3, .int (iI (bior z5.1 0))), (0, .ref (aM 0)), (1, .int (iI v1)), (2, .int (iI v2))]) C dX7_nextOf_55 hl (k := 4) rfl (by decide) rfl (fun ls hl => ?_)
            refine lv_goto (tgt := 5) C.1 C.2.1 dX7_nextOf_58 (by decide) ?_
            cases h53
            exact ih5 (bior z5.1 0, z5.2 + 1) _ _ _ (lp_L2 hx5) Z (lv_sub hl [2, 3, 4, 1, 0] rfl)
          · have h54 := if_p h51 c52
            clear h51
            refine x_iconst C dX7_nextOf_39 ?_
            refine lv_aload_n C.1 C.2.1 dX7_nextOf_40 rfl (lv_at hl 0 rfl) ?_
            refine lv_iload C.1 C.2.1 dX7_nextOf_41 (lv_at hl 4 rfl) ?_
            refine lv_iload_n C.1 C.2.1 dX7_nextOf_43 rfl (lv_at hl 2 rfl) ?_
            refine x_iadd C dX7_nextOf_44 ?_
            obtain ⟨r55, hr55, h56⟩ := bd_some h54
            clear h54
            refine x_callV_i_id (As := [.int (iI (z5.2 + v2))]) (rest := [.int (iI 1), .int (iI z5.1)]) (q0 := 0) C Z (k_X7_letterAt l g n aM sMv sMp sMt sMs sMc sMr (z5.2 + v2) r55 hr55) gX7_nextOf_X7_letterAt yk_X7_letterAt ⟨Nat.le_of_ble_eq_true rfl, Nat.le_of_ble_eq_true rfl⟩ rfl rfl ⟨Nat.zero_le _, Nat.zero_le _⟩ hl.1 rfl (Nat.le_of_ble_eq_true rfl) rfl dX7_nextOf_45 (fun H locs Z => ?_)
            refine x_ishl C dX7_nextOf_48 ?_
            refine lv_goto (tgt := 53) C.1 C.2.1 dX7_nextOf_49 (by decide) ?_
            refine x_ior C dX7_nextOf_53 ?_
            refine lv_istore_n (lv' := [(3, .int (iI (bior z5.1 (bishl 1 r55)))), (0, .ref (aM 0)), (1, .int (iI v1)), (2, .int (iI v2)), (4, .int (iI z5.2))]) C.1 C.2.1 dX7_nextOf_54 rfl hl (by decide) rfl (fun ls hl => ?_)
            refine x_iinc (lv' := [(4, .int (iI (z5.2 + 1))), (3, .int (iI (bior z5.1 (bishl 1 r55)))), (0, .ref (aM 0)), (1, .int (iI v1)), (2, .int (iI v2))]) C dX7_nextOf_55 hl (k := 4) rfl (by decide) rfl (fun ls hl => ?_)
            refine lv_goto (tgt := 5) C.1 C.2.1 dX7_nextOf_58 (by decide) ?_
            cases h56
            exact ih5 (bior z5.1 (bishl 1 r55), z5.2 + 1) _ _ _ (lp_L2 hx5) Z (lv_sub hl [2, 3, 4, 1, 0] rfl)
  exact hL5 n (0, 0) _ _ _ hl5 Z (lv_sub hl [2, 3, 4, 1, 0] rfl)
abbrev rmX7_linkOf : Room := { frames := 5, cells := 0, slots := 0, locals := 118 }
theorem yk_X7_linkOf : xY yX7_linkOf RX7 cX7_linkOf 3 (some .int) wsX7_linkOf rmX7_linkOf 1 := ⟨⟨_, rfl⟩, by decide +kernel, rfl, rfl⟩
theorem i_X7_X7_linkOf : ∀ w ∈ u_ws RX7 TX7 23, w ∈ wsX7_linkOf := fun _ h => List.mem_cons_of_mem _ (List.mem_append_right _ h)
set_option maxHeartbeats 4000000 in
set_option maxRecDepth 100000 in
theorem k_X7_linkOf (l : Launch) (g : xG) (n : Nat) (aM : Nat → Nat) (sMv : MvS) (sMp : MpS) (sMt : MtS) (sMs : MsS) (sMc : McS) (sMr : MrS) (v1 : Int) (r : Int) (hf : p_X7_linkOf n sMt sMc v1 = some r) : xMi l yX7_linkOf wsX7_linkOf rmX7_linkOf g [.ref (aM 0), .int (iI v1)] (wM g aM sMv sMp sMt sMs sMc sMr) (wM g aM sMv sMp sMt sMs sMc sMr) r := by
  refine x_ofW_i (own := RX7) (by decide) rfl rfl (Nat.le_of_ble_eq_true rfl) ?_
  intro p e s m args below meth c ls A QQ C hRet Z hl
  have hl : lv_has ls 3 [(0, .ref (aM 0)), (1, .int (iI v1))] := hl
  unfold p_X7_linkOf at hf
  refine lv_aload_n C.1 C.2.1 dX7_linkOf_0 rfl (lv_at hl 0 rfl) ?_
  refine x_get C Z 0 rfl rfl i_X7_X7_linkOf (k := 18) (by decide) (List.mem_of_getElem? (i := 1) rfl) rfl dX7_linkOf_1 ?_
  refine lv_iload_n C.1 C.2.1 dX7_linkOf_4 rfl (lv_at hl 1 rfl) ?_
  have q1 := (ix_some hf).1
  have h2 := (ix_some hf).2
  clear hf
  refine x_iald C Z 16 rfl (by decide) q1 dX7_linkOf_5 ?_
  refine x_iconst C dX7_linkOf_6 ?_
  refine x_isub C dX7_linkOf_7 ?_
  refine lv_istore_n (lv' := [(2, .int (iI ((sMc.classShort v1) - 1))), (0, .ref (aM 0)), (1, .int (iI v1))]) C.1 C.2.1 dX7_linkOf_8 rfl hl (by decide) rfl (fun ls hl => ?_)
  refine lv_iload_n C.1 C.2.1 dX7_linkOf_9 rfl (lv_at hl 0 rfl) ?_
  have q3 := (ck_some h2).1
  have h4 := (ck_some h2).2
  clear h2
  refine x_if_ne (tgt := 18) C dX7_linkOf_10 (by decide) q3 (fun c5 => ?_) (fun c5 => ?_)
  · have h6 := if_n h4 c5
    clear h4
    refine lv_aload_n C.1 C.2.1 dX7_linkOf_18 rfl (lv_at hl 1 rfl) ?_
    refine lv_aload_n C.1 C.2.1 dX7_linkOf_19 rfl (lv_at hl 1 rfl) ?_
    refine x_get C Z 0 rfl rfl i_X7_X7_linkOf (k := 17) (by decide) (List.mem_of_getElem? (i := 2) rfl) rfl dX7_linkOf_20 ?_
    refine lv_iload_n C.1 C.2.1 dX7_linkOf_23 rfl (lv_at hl 2 rfl) ?_
    refine x_iald C Z 15 rfl (by decide) q1 dX7_linkOf_24 ?_
    refine lv_iload_n C.1 C.2.1 dX7_linkOf_25 rfl (lv_at hl 0 rfl) ?_
    refine x_isub C dX7_linkOf_26 ?_
    refine x_iconst C dX7_linkOf_27 ?_
    refine x_iadd C dX7_linkOf_28 ?_
    refine lv_iload_n C.1 C.2.1 dX7_linkOf_29 rfl (lv_at hl 0 rfl) ?_
    obtain ⟨r10, hr10, h11⟩ := bd_some h6
    clear h6
    refine x_callV_i_id (As := [.int (iI (((sMc.classLast v1) - ((sMc.classShort v1) - 1)) + 1)), .int (iI ((sMc.classShort v1) - 1))]) (rest := []) (q0 := 0) C Z (k_X7_classAt l g n aM sMv sMp sMt sMs sMc sMr (((sMc.classLast v1) - ((sMc.classShort v1) - 1)) + 1) ((sMc.classShort v1) - 1) r10 hr10) gX7_linkOf_X7_classAt yk_X7_classAt ⟨Nat.le_of_ble_eq_true rfl, Nat.le_of_ble_eq_true rfl⟩ rfl rfl ⟨Nat.zero_le _, Nat.zero_le _⟩ hl.1 rfl (Nat.le_of_ble_eq_true rfl) rfl dX7_linkOf_30 (fun H locs Z => ?_)
    have h12 := Option.some.inj h11
    subst h12
    exact hRet _ _ _ _ Z dX7_linkOf_33
  · have h7 := if_p h4 c5
    clear h4
    refine x_bipush C dX7_linkOf_13 (by decide) ?_
    refine lv_goto (tgt := 33) C.1 C.2.1 dX7_linkOf_15 (by decide) ?_
    have h13 := Option.some.inj h7
    subst h13
    exact hRet _ _ _ _ Z dX7_linkOf_33
abbrev rmX7_group : Room := { frames := 6, cells := 0, slots := 0, locals := 141 }
theorem yk_X7_group : xY yX7_group RX7 cX7_group 3 (some .int) wsX7_group rmX7_group 2 := ⟨⟨_, rfl⟩, by decide +kernel, rfl, rfl⟩
theorem i_X7_X7_group : ∀ w ∈ u_ws RX7 TX7 23, w ∈ wsX7_group := fun _ h => List.mem_cons_of_mem _ (List.mem_append_right _ h)
set_option maxHeartbeats 4000000 in
set_option maxRecDepth 100000 in
theorem k_X7_group (l : Launch) (g : xG) (n : Nat) (aM : Nat → Nat) (sMv : MvS) (sMp : MpS) (sMt : MtS) (sMs : MsS) (sMc : McS) (sMr : MrS) (v1 : Int) (v2 : Int) (r : Int × MtS × McS) (hf : p_X7_group n sMv sMt sMc v1 v2 = some r) : xMi l yX7_group wsX7_group rmX7_group g [.ref (aM 0), .int (iI v1), .int (iI v2)] (wM g aM sMv sMp sMt sMs sMc sMr) (wM g aM sMv sMp r.2.1 sMs r.2.2 sMr) r.1 := by
  refine x_ofW_i (own := RX7) (by decide) rfl rfl (Nat.le_of_ble_eq_true rfl) ?_
  intro p e s m args below meth c ls A QQ C hRet Z hl
  have hl : lv_has ls 3 [(0, .ref (aM 0)), (1, .int (iI v1)), (2, .int (iI v2))] := hl
  unfold p_X7_group at hf
  refine lv_aload_n C.1 C.2.1 dX7_group_0 rfl (lv_at hl 0 rfl) ?_
  refine lv_iload_n C.1 C.2.1 dX7_group_1 rfl (lv_at hl 1 rfl) ?_
  obtain ⟨r1, hr1, h2⟩ := bd_some hf
  clear hf
  refine x_callV_i_id (As := [.int (iI v1)]) (rest := []) (q0 := 0) C Z (k_X7_isClass l g n aM sMv sMp sMt sMs sMc sMr v1 r1 hr1) gX7_group_X7_isClass yk_X7_isClass ⟨Nat.le_of_ble_eq_true rfl, Nat.le_of_ble_eq_true rfl⟩ rfl rfl ⟨Nat.zero_le _, Nat.zero_le _⟩ hl.1 rfl (Nat.le_of_ble_eq_true rfl) rfl dX7_group_2 (fun H locs Z => ?_)
  have q3 := (ck_some h2).1
  have h4 := (ck_some h2).2
  clear h2
  refine x_if_ne (tgt := 10) C dX7_group_5 (by decide) q3 (fun c5 => ?_) (fun c5 => ?_)
  · have h6 := if_n h4 c5
    clear h4
    refine lv_iload_n C.1 C.2.1 dX7_group_10 rfl (lv_at hl 2 rfl) ?_
    have q8 := (ck_some h6).1
    have h9 := (ck_some h6).2
    clear h6
    by_cases c10 : v2 = 0
    · have h11 := if_p h9 c10
      clear h9
      refine x_tin (tgt := 52) C dX7_group_11 q8 c10 (by decide) (by decide) (by rfl) (by decide) ?_
      refine lv_aload_n C.1 C.2.1 dX7_group_52 rfl (lv_at hl 0 rfl) ?_
      refine x_get C Z 0 rfl rfl i_X7_X7_group (k := 19) (by decide) (List.mem_of_getElem? (i := 1) rfl) rfl dX7_group_53 ?_
      refine lv_iload_n C.1 C.2.1 dX7_group_56 rfl (lv_at hl 1 rfl) ?_
      have q13 := (ix_some h11).1
      have h14 := (ix_some h11).2
      clear h11
      refine x_iald C Z 17 rfl (by decide) q13 dX7_group_57 ?_
      have h15 := Option.some.inj h14
      subst h15
      exact hRet _ _ _ _ Z dX7_group_58
    have h12 := if_n h9 c10
    clear h9
    by_cases c16 : v2 = 1
    · have h17 := if_p h12 c16
      clear h12
      refine x_tin (tgt := 59) C dX7_group_11 q8 c16 (by decide) (by decide) (by rfl) (by decide) ?_
      refine lv_aload_n C.1 C.2.1 dX7_group_59 rfl (lv_at hl 0 rfl) ?_
      refine x_get C Z 0 rfl rfl i_X7_X7_group (k := 18) (by decide) (List.mem_of_getElem? (i := 2) rfl) rfl dX7_group_60 ?_
      refine lv_iload_n C.1 C.2.1 dX7_group_63 rfl (lv_at hl 1 rfl) ?_
      have q19 := (ix_some h17).1
      have h20 := (ix_some h17).2
      clear h17
      refine x_iald C Z 16 rfl (by decide) q19 dX7_group_64 ?_
      have h21 := Option.some.inj h20
      subst h21
      exact hRet _ _ _ _ Z dX7_group_65
    have h18 := if_n h12 c16
    clear h12
    by_cases c22 : v2 = 2
    · have h23 := if_p h18 c22
      clear h18
      refine x_tin (tgt := 66) C dX7_group_11 q8 c22 (by decide) (by decide) (by rfl) (by decide) ?_
      refine lv_aload_n C.1 C.2.1 dX7_group_66 rfl (lv_at hl 0 rfl) ?_
      refine x_get C Z 0 rfl rfl i_X7_X7_group (k := 20) (by decide) (List.mem_of_getElem? (i := 3) rfl) rfl dX7_group_67 ?_
      refine lv_iload_n C.1 C.2.1 dX7_group_70 rfl (lv_at hl 1 rfl) ?_
      have q25 := (ix_some h23).1
      have h26 := (ix_some h23).2
      clear h23
      refine x_iald C Z 18 rfl (by decide) q25 dX7_group_71 ?_
      have h27 := Option.some.inj h26
      subst h27
      exact hRet _ _ _ _ Z dX7_group_72
    have h24 := if_n h18 c22
    clear h18
    by_cases c28 : v2 = 3
    · have h29 := if_p h24 c28
      clear h24
      refine x_tin (tgt := 73) C dX7_group_11 q8 c28 (by decide) (by decide) (by rfl) (by decide) ?_
      refine lv_aload_n C.1 C.2.1 dX7_group_73 rfl (lv_at hl 0 rfl) ?_
      refine lv_iload_n C.1 C.2.1 dX7_group_74 rfl (lv_at hl 1 rfl) ?_
      obtain ⟨r31, hr31, h32⟩ := bd_some h29
      clear h29
      refine x_callV_i_id (As := [.int (iI v1)]) (rest := []) (q0 := 0) C Z (k_X7_linkOf l g n aM sMv sMp r1.2.1 sMs r1.2.2 sMr v1 r31 hr31) gX7_group_X7_linkOf yk_X7_linkOf ⟨Nat.le_of_ble_eq_true rfl, Nat.le_of_ble_eq_true rfl⟩ rfl rfl ⟨Nat.zero_le _, Nat.zero_le _⟩ hl.1 rfl (Nat.le_of_ble_eq_true rfl) rfl dX7_group_75 (fun H locs Z => ?_)
      have h33 := Option.some.inj h32
      subst h33
      exact hRet _ _ _ _ Z dX7_group_78
    have h30 := if_n h24 c28
    clear h24
    by_cases c34 : v2 = 4
    · have h35 := if_p h30 c34
      clear h30
      refine x_tin (tgt := 79) C dX7_group_11 q8 c34 (by decide) (by decide) (by rfl) (by decide) ?_
      refine lv_aload_n C.1 C.2.1 dX7_group_79 rfl (lv_at hl 0 rfl) ?_
      refine lv_aload_n C.1 C.2.1 dX7_group_80 rfl (lv_at hl 0 rfl) ?_
      refine lv_iload_n C.1 C.2.1 dX7_group_81 rfl (lv_at hl 1 rfl) ?_
      obtain ⟨r37, hr37, h38⟩ := bd_some h35
      clear h35
      refine x_callV_i_id (As := [.int (iI v1)]) (rest := [.ref (aM 0)]) (q0 := 0) C Z (k_X7_firstOf l g n aM sMv sMp r1.2.1 sMs r1.2.2 sMr v1 r37 hr37) gX7_group_X7_firstOf yk_X7_firstOf ⟨Nat.le_of_ble_eq_true rfl, Nat.le_of_ble_eq_true rfl⟩ rfl rfl ⟨Nat.zero_le _, Nat.zero_le _⟩ hl.1 rfl (Nat.le_of_ble_eq_true rfl) rfl dX7_group_82 (fun H locs Z => ?_)
      refine lv_aload_n C.1 C.2.1 dX7_group_85 rfl (lv_at hl 0 rfl) ?_
      refine x_get C Z 0 rfl rfl i_X7_X7_group (k := 19) (by decide) (List.mem_of_getElem? (i := 1) rfl) rfl dX7_group_86 ?_
      refine lv_iload_n C.1 C.2.1 dX7_group_89 rfl (lv_at hl 1 rfl) ?_
      have q39 := (ix_some h38).1
      have h40 := (ix_some h38).2
      clear h38
      refine x_iald C Z 17 rfl (by decide) q39 dX7_group_90 ?_
      obtain ⟨r41, hr41, h42⟩ := bd_some h40
      clear h40
      refine x_callV_i_id (As := [.int (iI r37), .int (iI (r1.2.2.classLong v1))]) (rest := []) (q0 := 0) C Z (k_X7_nextOf l g n aM sMv sMp r1.2.1 sMs r1.2.2 sMr r37 (r1.2.2.classLong v1) r41 hr41) gX7_group_X7_nextOf yk_X7_nextOf ⟨Nat.le_of_ble_eq_true rfl, Nat.le_of_ble_eq_true rfl⟩ rfl rfl ⟨Nat.zero_le _, Nat.zero_le _⟩ hl.1 rfl (Nat.le_of_ble_eq_true rfl) rfl dX7_group_91 (fun H locs Z => ?_)
      have h43 := Option.some.inj h42
      subst h43
      exact hRet _ _ _ _ Z dX7_group_94
    have h36 := if_n h30 c34
    clear h30
    by_cases c44 : v2 = 5
    · have h45 := if_p h36 c44
      clear h36
      refine x_tin (tgt := 95) C dX7_group_11 q8 c44 (by decide) (by decide) (by rfl) (by decide) ?_
      refine lv_aload_n C.1 C.2.1 dX7_group_95 rfl (lv_at hl 0 rfl) ?_
      refine lv_iload_n C.1 C.2.1 dX7_group_96 rfl (lv_at hl 1 rfl) ?_
      obtain ⟨r47, hr47, h48⟩ := bd_some h45
      clear h45
      refine x_callV_i_id (As := [.int (iI v1)]) (rest := []) (q0 := 0) C Z (k_X7_wordsOfClass l g n aM sMv sMp r1.2.1 sMs r1.2.2 sMr v1 r47 hr47) gX7_group_X7_wordsOfClass yk_X7_wordsOfClass ⟨Nat.le_of_ble_eq_true rfl, Nat.le_of_ble_eq_true rfl⟩ rfl rfl ⟨Nat.zero_le _, Nat.zero_le _⟩ hl.1 rfl (Nat.le_of_ble_eq_true rfl) rfl dX7_group_97 (fun H locs Z => ?_)
      have h49 := Option.some.inj h48
      subst h49
      exact hRet _ _ _ _ Z dX7_group_100
    have h46 := if_n h36 c44
    clear h36
    by_cases c50 : v2 = 6
    · have h51 := if_p h46 c50
      clear h46
      refine x_tin (tgt := 101) C dX7_group_11 q8 c50 (by decide) (by decide) (by rfl) (by decide) ?_
      refine lv_aload_n C.1 C.2.1 dX7_group_101 rfl (lv_at hl 0 rfl) ?_
      refine lv_aload_n C.1 C.2.1 dX7_group_102 rfl (lv_at hl 0 rfl) ?_
      refine x_get C Z 0 rfl rfl i_X7_X7_group (k := 17) (by decide) (List.mem_of_getElem? (i := 4) rfl) rfl dX7_group_103 ?_
      refine lv_iload_n C.1 C.2.1 dX7_group_106 rfl (lv_at hl 1 rfl) ?_
      have q53 := (ix_some h51).1
      have h54 := (ix_some h51).2
      clear h51
      refine x_iald C Z 15 rfl (by decide) q53 dX7_group_107 ?_
      obtain ⟨r55, hr55, h56⟩ := bd_some h54
      clear h54
      refine x_callV_i_id (As := [.int (iI (r1.2.2.classLast v1))]) (rest := []) (q0 := 0) C Z (k_X7_asEnd l g n aM sMv sMp r1.2.1 sMs r1.2.2 sMr (r1.2.2.classLast v1) r55 hr55) gX7_group_X7_asEnd yk_X7_asEnd ⟨Nat.le_of_ble_eq_true rfl, Nat.le_of_ble_eq_true rfl⟩ rfl rfl ⟨Nat.zero_le _, Nat.zero_le _⟩ hl.1 rfl (Nat.le_of_ble_eq_true rfl) rfl dX7_group_108 (fun H locs Z => ?_)
      have h57 := Option.some.inj h56
      subst h57
      exact hRet _ _ _ _ Z dX7_group_111
    have h52 := if_n h46 c50
    clear h46
    refine x_tout (tgt := 112) C dX7_group_11 q8 (by omega) (by decide) ?_
    refine x_bipush C dX7_group_112 (by decide) ?_
    have h58 := Option.some.inj h52
    subst h58
    exact hRet _ _ _ _ Z dX7_group_114
  · have h7 := if_p h4 c5
    clear h4
    refine x_iconst C dX7_group_8 ?_
    have h59 := Option.some.inj h7
    subst h59
    exact hRet _ _ _ _ Z dX7_group_9
abbrev rmX7_spell : Room := { frames := 6, cells := 0, slots := 0, locals := 141 }
theorem yk_X7_spell : xY yX7_spell RX7 cX7_spell 2 (some .int) wsX7_spell rmX7_spell 1 := ⟨⟨_, rfl⟩, by decide +kernel, rfl, rfl⟩
theorem i_X7_X7_spell : ∀ w ∈ u_ws RX7 TX7 23, w ∈ wsX7_spell := fun _ h => List.mem_cons_of_mem _ (List.mem_append_right _ h)
set_option maxHeartbeats 4000000 in
set_option maxRecDepth 100000 in
theorem k_X7_spell (l : Launch) (g : xG) (n : Nat) (aM : Nat → Nat) (sMv : MvS) (sMp : MpS) (sMt : MtS) (sMs : MsS) (sMc : McS) (sMr : MrS) (v1 : Int) (r : Int × MpS × MtS × McS) (hf : p_X7_spell n sMv sMp sMt sMc v1 = some r) : xMi l yX7_spell wsX7_spell rmX7_spell g [.ref (aM 0), .int (iI v1)] (wM g aM sMv sMp sMt sMs sMc sMr) (wM g aM sMv r.2.1 r.2.2.1 sMs r.2.2.2 sMr) r.1 := by
  refine x_ofW_i (own := RX7) (by decide) rfl rfl (Nat.le_of_ble_eq_true rfl) ?_
  intro p e s m args below meth c ls A QQ C hRet Z hl
  have hl : lv_has ls 2 [(0, .ref (aM 0)), (1, .int (iI v1))] := hl
  unfold p_X7_spell at hf
  refine lv_aload_n C.1 C.2.1 dX7_spell_0 rfl (lv_at hl 0 rfl) ?_
  refine lv_iload_n C.1 C.2.1 dX7_spell_1 rfl (lv_at hl 1 rfl) ?_
  obtain ⟨r1, hr1, h2⟩ := bd_some hf
  clear hf
  refine x_callV_i_id (As := [.int (iI v1)]) (rest := []) (q0 := 0) C Z (k_X7_isClass l g n aM sMv sMp sMt sMs sMc sMr v1 r1 hr1) gX7_spell_X7_isClass yk_X7_isClass ⟨Nat.le_of_ble_eq_true rfl, Nat.le_of_ble_eq_true rfl⟩ rfl rfl ⟨Nat.zero_le _, Nat.zero_le _⟩ hl.1 rfl (Nat.le_of_ble_eq_true rfl) rfl dX7_spell_2 (fun H locs Z => ?_)
  have q3 := (ck_some h2).1
  have h4 := (ck_some h2).2
  clear h2
  refine x_if_eq (tgt := 26) C dX7_spell_5 (by decide) q3 (fun c5 => ?_) (fun c5 => ?_)
  · have h6 := if_p h4 c5
    clear h4
    refine x_iconst C dX7_spell_26 ?_
    have h8 := Option.some.inj h6
    subst h8
    exact hRet _ _ _ _ Z dX7_spell_27
  · have h7 := if_n h4 c5
    clear h4
    refine lv_aload_n C.1 C.2.1 dX7_spell_8 rfl (lv_at hl 0 rfl) ?_
    refine lv_aload_n C.1 C.2.1 dX7_spell_9 rfl (lv_at hl 0 rfl) ?_
    refine lv_iload_n C.1 C.2.1 dX7_spell_10 rfl (lv_at hl 1 rfl) ?_
    obtain ⟨r9, hr9, h10⟩ := bd_some h7
    clear h7
    refine x_callV_i_id (As := [.int (iI v1)]) (rest := [.ref (aM 0)]) (q0 := 0) C Z (k_X7_firstOf l g n aM sMv sMp r1.2.1 sMs r1.2.2 sMr v1 r9 hr9) gX7_spell_X7_firstOf yk_X7_firstOf ⟨Nat.le_of_ble_eq_true rfl, Nat.le_of_ble_eq_true rfl⟩ rfl rfl ⟨Nat.zero_le _, Nat.zero_le _⟩ hl.1 rfl (Nat.le_of_ble_eq_true rfl) rfl dX7_spell_11 (fun H locs Z => ?_)
    refine lv_aload_n C.1 C.2.1 dX7_spell_14 rfl (lv_at hl 0 rfl) ?_
    refine x_get C Z 0 rfl rfl i_X7_X7_spell (k := 19) (by decide) (List.mem_of_getElem? (i := 1) rfl) rfl dX7_spell_15 ?_
    refine lv_iload_n C.1 C.2.1 dX7_spell_18 rfl (lv_at hl 1 rfl) ?_
    have q11 := (ix_some h10).1
    have h12 := (ix_some h10).2
    clear h10
    refine x_iald C Z 17 rfl (by decide) q11 dX7_spell_19 ?_
    obtain ⟨r13, hr13, h14⟩ := bd_some h12
    clear h12
    refine x_callV_i_id (As := [.int (iI r9), .int (iI (r1.2.2.classLong v1))]) (rest := []) (q0 := 0) C Z (k_X7_write l g n aM sMv sMp r1.2.1 sMs r1.2.2 sMr r9 (r1.2.2.classLong v1) r13 hr13) gX7_spell_X7_write yk_X7_write ⟨Nat.le_of_ble_eq_true rfl, Nat.le_of_ble_eq_true rfl⟩ rfl rfl ⟨Nat.zero_le _, Nat.zero_le _⟩ hl.1 rfl (Nat.le_of_ble_eq_true rfl) rfl dX7_spell_20 (fun H locs Z => ?_)
    refine lv_goto (tgt := 27) C.1 C.2.1 dX7_spell_23 (by decide) ?_
    have h15 := Option.some.inj h14
    subst h15
    exact hRet _ _ _ _ Z dX7_spell_27
abbrev rmX7_step : Room := { frames := 6, cells := 0, slots := 0, locals := 141 }
theorem yk_X7_step : xY yX7_step RX7 cX7_step 6 (some .int) wsX7_step rmX7_step 2 := ⟨⟨_, rfl⟩, by decide +kernel, rfl, rfl⟩
theorem i_X7_X7_step : ∀ w ∈ u_ws RX7 TX7 23, w ∈ wsX7_step := fun _ h => List.mem_cons_of_mem _ (List.mem_append_right _ h)
set_option maxHeartbeats 4000000 in
set_option maxRecDepth 100000 in
theorem k_X7_step (l : Launch) (g : xG) (n : Nat) (aM : Nat → Nat) (sMv : MvS) (sMp : MpS) (sMt : MtS) (sMs : MsS) (sMc : McS) (sMr : MrS) (v1 : Int) (v2 : Int) (r : Int × MtS × McS) (hf : p_X7_step n sMv sMt sMc v1 v2 = some r) : xMi l yX7_step wsX7_step rmX7_step g [.ref (aM 0), .int (iI v1), .int (iI v2)] (wM g aM sMv sMp sMt sMs sMc sMr) (wM g aM sMv sMp r.2.1 sMs r.2.2 sMr) r.1 := by
  refine x_ofW_i (own := RX7) (by decide) rfl rfl (Nat.le_of_ble_eq_true rfl) ?_
  intro p e s m args below meth c ls A QQ C hRet Z hl
  have hl : lv_has ls 6 [(0, .ref (aM 0)), (1, .int (iI v1)), (2, .int (iI v2))] := hl
  unfold p_X7_step at hf
  have hJ43 : ∀ (sMt_43 : MtS) (sMc_43 : McS) (v1_43 : Int) (v2_43 : Int) (t0_43 : Int) (H : Heap) (locs : List Loc) (ls : Array Slot), p_X7_step_j43 n sMt_43 sMc_43 v1_43 v2_43 t0_43 = some r → xSt g A s (wM g aM sMv sMp sMt_43 sMs sMc_43 sMr) H locs → lv_has ls 6 [(0, .ref (aM 0)), (1, .int (iI v1_43)), (2, .int (iI v2_43))] → W p l e rmX7_step s m args below meth c H locs 0 0 QQ (F0 m 43 ls [.int (iI t0_43)]) := by
    intro sMt_43 sMc_43 v1_43 v2_43 t0_43 H locs ls hj43 Z hl
    unfold p_X7_step_j43 at hj43
    refine lv_istore_n (lv' := [(3, .int (iI t0_43)), (0, .ref (aM 0)), (1, .int (iI v1_43)), (2, .int (iI v2_43))]) C.1 C.2.1 dX7_step_43 rfl hl (by decide) rfl (fun ls hl => ?_)
    refine x_iconst C dX7_step_44 ?_
    refine lv_istore (lv' := [(4, .int (iI 0)), (3, .int (iI t0_43)), (0, .ref (aM 0)), (1, .int (iI v1_43)), (2, .int (iI v2_43))]) C.1 C.2.1 dX7_step_45 hl (by decide) rfl (fun ls hl => ?_)
    obtain ⟨ex47, hl47, h106⟩ := bd_some hj43
    clear hj43
    have hK47 : ∀ (e47 : Unit) (H : Heap) (locs : List Loc) (ls : Array Slot), ex47 = .inr e47 → xSt g A s (wM g aM sMv sMp sMt_43 sMs sMc_43 sMr) H locs → lv_has ls 6 [] → W p l e rmX7_step s m args below meth c H locs 0 0 QQ (F0 m 129 ls []) := by
      intro e47 H locs ls he Z hl
      subst he
      have h107 := (Sum.elim_inr ..).symm.trans h106
      clear h106
      refine x_bipush C dX7_step_129 (by decide) ?_
      have h108 := Option.some.inj h107
      subst h108
      exact hRet _ _ _ _ Z dX7_step_131
    have hL47 : ∀ (k47 : Nat) (z47 : Int) (H : Heap) (locs : List Loc) (ls : Array Slot), lp (p_X7_step_b47 n sMt_43 sMc_43 v1_43 v2_43 t0_43) k47 z47 = some ex47 → xSt g A s (wM g aM sMv sMp sMt_43 sMs sMc_43 sMr) H locs → lv_has ls 6 [(0, .ref (aM 0)), (1, .int (iI v1_43)), (2, .int (iI v2_43)), (3, .int (iI t0_43)), (4, .int (iI z47))] → W p l e rmX7_step s m args below meth c H locs 0 0 QQ (F0 m 47 ls []) := by
      intro k47
      induction k47 with
      | zero => intro z47 H locs ls h; exact (lp_0 h).elim
      | succ k47 ih47 =>
        intro z47 H locs ls h Z hl
        obtain ⟨x47, hb47, hx47⟩ := lp_s h
        clear h
        unfold p_X7_step_b47 at hb47
        have hJ106 : ∀ (v4_106 : Int) (t0_106 : Int) (H : Heap) (locs : List Loc) (ls : Array Slot), p_X7_step_j106 n sMt_43 sMc_43 t0_43 v4_106 t0_106 = some x47 → xSt g A s (wM g aM sMv sMp sMt_43 sMs sMc_43 sMr) H locs → lv_has ls 6 [(0, .ref (aM 0)), (1, .int (iI v1_43)), (2, .int (iI v2_43)), (3, .int (iI t0_43)), (4, .int (iI v4_106))] → W p l e rmX7_step s m args below meth c H locs 0 0 QQ (F0 m 106 ls [.int (iI t0_106)]) := by
          intro v4_106 t0_106 H locs ls hj106 Z hl
          unfold p_X7_step_j106 at hj106
          refine lv_istore (lv' := [(5, .int (iI t0_106)), (0, .ref (aM 0)), (1, .int (iI v1_43)), (2, .int (iI v2_43)), (3, .int (iI t0_43)), (4, .int (iI v4_106))]) C.1 C.2.1 dX7_step_106 hl (by decide) rfl (fun ls hl => ?_)
          refine lv_iload C.1 C.2.1 dX7_step_108 (lv_at hl 0 rfl) ?_
          have q55 := (ck_some hj106).1
          have h56 := (ck_some hj106).2
          clear hj106
          refine x_if_eq (tgt := 123) C dX7_step_110 (by decide) q55 (fun c57 => ?_) (fun c57 => ?_)
          · have h58 := if_p h56 c57
            clear h56
            refine x_iinc (lv' := [(4, .int (iI (v4_106 + 1))), (5, .int (iI t0_106)), (0, .ref (aM 0)), (1, .int (iI v1_43)), (2, .int (iI v2_43)), (3, .int (iI t0_43))]) C dX7_step_123 hl (k := 5) rfl (by decide) rfl (fun ls hl => ?_)
            refine lv_goto (tgt := 47) C.1 C.2.1 dX7_step_126 (by decide) ?_
            cases h58
            exact ih47 (v4_106 + 1) _ _ _ (lp_L2 hx47) Z (lv_sub hl [2, 3, 4, 5, 0] rfl)
          · have h59 := if_n h56 c57
            clear h56
            refine lv_aload_n C.1 C.2.1 dX7_step_113 rfl (lv_at hl 1 rfl) ?_
            refine lv_iload C.1 C.2.1 dX7_step_114 (lv_at hl 5 rfl) ?_
            refine lv_iload_n C.1 C.2.1 dX7_step_116 rfl (lv_at hl 4 rfl) ?_
            refine x_iconst C dX7_step_117 ?_
            refine x_iadd C dX7_step_118 ?_
            obtain ⟨r60, hr60, h61⟩ := bd_some h59
            clear h59
            refine x_callV_i_id (As := [.int (iI v4_106), .int (iI (t0_43 + 1))]) (rest := []) (q0 := 0) C Z (k_X7_classAt l g n aM sMv sMp sMt_43 sMs sMc_43 sMr v4_106 (t0_43 + 1) r60 hr60) gX7_step_X7_classAt yk_X7_classAt ⟨Nat.le_of_ble_eq_true rfl, Nat.le_of_ble_eq_true rfl⟩ rfl rfl ⟨Nat.zero_le _, Nat.zero_le _⟩ hl.1 rfl (Nat.le_of_ble_eq_true rfl) rfl dX7_step_119 (fun H locs Z => ?_)
            cases h61
            have h62 := lp_R hx47
            subst h62
            have h63 := (Sum.elim_inl ..).symm.trans h106
            have h64 := Option.some.inj h63
            subst h64
            exact hRet _ _ _ _ Z dX7_step_122
        have hJ105 : ∀ (v4_105 : Int) (H : Heap) (locs : List Loc) (ls : Array Slot), p_X7_step_j105 n sMt_43 sMc_43 t0_43 v4_105 = some x47 → xSt g A s (wM g aM sMv sMp sMt_43 sMs sMc_43 sMr) H locs → lv_has ls 6 [(0, .ref (aM 0)), (1, .int (iI v1_43)), (2, .int (iI v2_43)), (3, .int (iI t0_43)), (4, .int (iI v4_105))] → W p l e rmX7_step s m args below meth c H locs 0 0 QQ (F0 m 105 ls []) := by
          intro v4_105 H locs ls hj105 Z hl
          unfold p_X7_step_j105 at hj105
          refine x_iconst C dX7_step_105 ?_
          exact hJ106 v4_105 0 _ _ _ hj105 Z (lv_sub hl [0, 1, 2, 3, 4] rfl)
        have hJ101 : ∀ (v4_101 : Int) (H : Heap) (locs : List Loc) (ls : Array Slot), p_X7_step_j101 n sMt_43 sMc_43 t0_43 v4_101 = some x47 → xSt g A s (wM g aM sMv sMp sMt_43 sMs sMc_43 sMr) H locs → lv_has ls 6 [(0, .ref (aM 0)), (1, .int (iI v1_43)), (2, .int (iI v2_43)), (3, .int (iI t0_43)), (4, .int (iI v4_101))] → W p l e rmX7_step s m args below meth c H locs 0 0 QQ (F0 m 101 ls []) := by
          intro v4_101 H locs ls hj101 Z hl
          unfold p_X7_step_j101 at hj101
          refine x_iconst C dX7_step_101 ?_
          refine lv_goto (tgt := 106) C.1 C.2.1 dX7_step_102 (by decide) ?_
          exact hJ106 v4_101 1 _ _ _ hj101 Z (lv_sub hl [0, 1, 2, 3, 4] rfl)
        refine lv_iload C.1 C.2.1 dX7_step_47 (lv_at hl 4 rfl) ?_
        refine lv_aload_n C.1 C.2.1 dX7_step_49 rfl (lv_at hl 0 rfl) ?_
        refine x_get C Z 0 rfl rfl i_X7_X7_step (k := 12) (by decide) (List.mem_of_getElem? (i := 2) rfl) rfl dX7_step_50 ?_
        refine x_iconst C dX7_step_53 ?_
        refine x_iald C Z 10 rfl (by decide) (by decide) dX7_step_54 ?_
        have q67 := (ck_some hb47).1
        have h68 := (ck_some hb47).2
        clear hb47
        have q69 := (ck_some h68).1
        have h70 := (ck_some h68).2
        clear h68
        refine x_icmp_ge (tgt := 129) C dX7_step_55 (by decide) q67 q69 (fun c71 => ?_) (fun c71 => ?_)
        · have h72 := if_n h70 c71
          clear h70
          cases h72
          exact hK47 () _ _ _ (lp_R hx47).symm Z (lv_sub hl [] rfl)
        · have h73 := if_p h70 c71
          clear h70
          refine lv_aload_n C.1 C.2.1 dX7_step_58 rfl (lv_at hl 0 rfl) ?_
          refine x_iconst C dX7_step_59 ?_
          refine lv_iload C.1 C.2.1 dX7_step_60 (lv_at hl 4 rfl) ?_
          obtain ⟨r74, hr74, h75⟩ := bd_some h73
          clear h73
          refine x_callV_i_id (As := [.int (iI 0), .int (iI z47)]) (rest := []) (q0 := 0) C Z (k_X7_rest l g n aM sMv sMp sMt_43 sMs sMc_43 sMr 0 z47 r74 hr74) gX7_step_X7_rest yk_X7_rest ⟨Nat.le_of_ble_eq_true rfl, Nat.le_of_ble_eq_true rfl⟩ rfl rfl ⟨Nat.zero_le _, Nat.zero_le _⟩ hl.1 rfl (Nat.le_of_ble_eq_true rfl) rfl dX7_step_62 (fun H locs Z => ?_)
          refine lv_iload_n C.1 C.2.1 dX7_step_65 rfl (lv_at hl 3 rfl) ?_
          have q76 := (ck_some h75).1
          have h77 := (ck_some h75).2
          clear h75
          have q78 := (ck_some h77).1
          have h79 := (ck_some h77).2
          clear h77
          refine x_icmp_le (tgt := 105) C dX7_step_66 (by decide) q76 q78 (fun c80 => ?_) (fun c80 => ?_)
          · have h81 := if_n h79 c80
            clear h79
            exact hJ105 z47 _ _ _ h81 Z (lv_sub hl [0, 1, 2, 3, 4] rfl)
          · have h82 := if_p h79 c80
            clear h79
            refine lv_aload_n C.1 C.2.1 dX7_step_69 rfl (lv_at hl 0 rfl) ?_
            refine lv_iload C.1 C.2.1 dX7_step_70 (lv_at hl 4 rfl) ?_
            refine lv_iload_n C.1 C.2.1 dX7_step_72 rfl (lv_at hl 3 rfl) ?_
            refine x_iadd C dX7_step_73 ?_
            obtain ⟨r83, hr83, h84⟩ := bd_some h82
            clear h82
            refine x_callV_i_id (As := [.int (iI (z47 + t0_43))]) (rest := []) (q0 := 0) C Z (k_X7_letterAt l g n aM sMv sMp sMt_43 sMs sMc_43 sMr (z47 + t0_43) r83 hr83) gX7_step_X7_letterAt yk_X7_letterAt ⟨Nat.le_of_ble_eq_true rfl, Nat.le_of_ble_eq_true rfl⟩ rfl rfl ⟨Nat.zero_le _, Nat.zero_le _⟩ hl.1 rfl (Nat.le_of_ble_eq_true rfl) rfl dX7_step_74 (fun H locs Z => ?_)
            refine lv_iload_n C.1 C.2.1 dX7_step_77 rfl (lv_at hl 2 rfl) ?_
            have q85 := (ck_some h84).1
            have h86 := (ck_some h84).2
            clear h84
            have q87 := (ck_some h86).1
            have h88 := (ck_some h86).2
            clear h86
            refine x_icmp_ne (tgt := 105) C dX7_step_78 (by decide) q85 q87 (fun c89 => ?_) (fun c89 => ?_)
            · have h90 := if_n h88 c89
              clear h88
              exact hJ105 z47 _ _ _ h90 Z (lv_sub hl [0, 1, 2, 3, 4] rfl)
            · have h91 := if_p h88 c89
              clear h88
              refine lv_iload_n C.1 C.2.1 dX7_step_81 rfl (lv_at hl 1 rfl) ?_
              refine x_iconst C dX7_step_82 ?_
              have q92 := (ck_some h91).1
              have h93 := (ck_some h91).2
              clear h91
              refine x_icmp_eq (tgt := 101) C dX7_step_83 (by decide) q92 (by decide) (fun c94 => ?_) (fun c94 => ?_)
              · have h95 := if_p h93 c94
                clear h93
                exact hJ101 z47 _ _ _ h95 Z (lv_sub hl [0, 1, 2, 3, 4] rfl)
              · have h96 := if_n h93 c94
                clear h93
                refine lv_aload_n C.1 C.2.1 dX7_step_86 rfl (lv_at hl 0 rfl) ?_
                refine lv_aload_n C.1 C.2.1 dX7_step_87 rfl (lv_at hl 0 rfl) ?_
                refine lv_iload_n C.1 C.2.1 dX7_step_88 rfl (lv_at hl 1 rfl) ?_
                obtain ⟨r97, hr97, h98⟩ := bd_some h96
                clear h96
                refine x_callV_i_id (As := [.int (iI v1_43)]) (rest := [.ref (aM 0)]) (q0 := 0) C Z (k_X7_firstOf l g n aM sMv sMp sMt_43 sMs sMc_43 sMr v1_43 r97 hr97) gX7_step_X7_firstOf yk_X7_firstOf ⟨Nat.le_of_ble_eq_true rfl, Nat.le_of_ble_eq_true rfl⟩ rfl rfl ⟨Nat.zero_le _, Nat.zero_le _⟩ hl.1 rfl (Nat.le_of_ble_eq_true rfl) rfl dX7_step_89 (fun H locs Z => ?_)
                refine lv_iload C.1 C.2.1 dX7_step_92 (lv_at hl 4 rfl) ?_
                refine lv_iload_n C.1 C.2.1 dX7_step_94 rfl (lv_at hl 3 rfl) ?_
                obtain ⟨r99, hr99, h100⟩ := bd_some h98
                clear h98
                refine x_callV_i_id (As := [.int (iI r97), .int (iI z47), .int (iI t0_43)]) (rest := []) (q0 := 0) C Z (k_X7_isSame l g n aM sMv sMp sMt_43 sMs sMc_43 sMr r97 z47 t0_43 r99 hr99) gX7_step_X7_isSame yk_X7_isSame ⟨Nat.le_of_ble_eq_true rfl, Nat.le_of_ble_eq_true rfl⟩ rfl rfl ⟨Nat.zero_le _, Nat.zero_le _⟩ hl.1 rfl (Nat.le_of_ble_eq_true rfl) rfl dX7_step_95 (fun H locs Z => ?_)
                have q101 := (ck_some h100).1
                have h102 := (ck_some h100).2
                clear h100
                refine x_if_eq (tgt := 105) C dX7_step_98 (by decide) q101 (fun c103 => ?_) (fun c103 => ?_)
                · have h104 := if_p h102 c103
                  clear h102
                  exact hJ105 z47 _ _ _ h104 Z (lv_sub hl [0, 1, 2, 3, 4] rfl)
                · have h105 := if_n h102 c103
                  clear h102
                  exact hJ101 z47 _ _ _ h105 Z (lv_sub hl [0, 1, 2, 3, 4] rfl)
    exact hL47 n 0 _ _ _ hl47 Z (lv_sub hl [2, 3, 4, 1, 0] rfl)
  have hJ15 : ∀ (sMt_15 : MtS) (sMc_15 : McS) (v1_15 : Int) (v2_15 : Int) (H : Heap) (locs : List Loc) (ls : Array Slot), p_X7_step_j15 n sMt_15 sMc_15 v1_15 v2_15 = some r → xSt g A s (wM g aM sMv sMp sMt_15 sMs sMc_15 sMr) H locs → lv_has ls 6 [(0, .ref (aM 0)), (1, .int (iI v1_15)), (2, .int (iI v2_15))] → W p l e rmX7_step s m args below meth c H locs 0 0 QQ (F0 m 15 ls []) := by
    intro sMt_15 sMc_15 v1_15 v2_15 H locs ls hj15 Z hl
    unfold p_X7_step_j15 at hj15
    refine lv_iload_n C.1 C.2.1 dX7_step_15 rfl (lv_at hl 2 rfl) ?_
    refine x_iconst C dX7_step_16 ?_
    refine x_bipush C dX7_step_17 (by decide) ?_
    obtain ⟨r109, hr109, h110⟩ := bd_some hj15
    clear hj15
    refine x_callS_i (As := [.int (iI v2_15), .int (iI 0), .int (iI 7)]) (rest := []) C Z (k_X7_in l g n v2_15 0 7 r109 hr109) gX7_step_X7_in yk_X7_in ⟨Nat.le_of_ble_eq_true rfl, Nat.le_of_ble_eq_true rfl⟩ ⟨Nat.zero_le _, Nat.zero_le _⟩ hl.1 rfl (Nat.le_of_ble_eq_true rfl) rfl dX7_step_19 (fun H locs Z => ?_)
    have q111 := (ck_some h110).1
    have h112 := (ck_some h110).2
    clear h110
    refine x_if_ne (tgt := 28) C dX7_step_22 (by decide) q111 (fun c113 => ?_) (fun c113 => ?_)
    · have h114 := if_n h112 c113
      clear h112
      refine lv_iload_n C.1 C.2.1 dX7_step_28 rfl (lv_at hl 1 rfl) ?_
      refine x_iconst C dX7_step_29 ?_
      have q116 := (ck_some h114).1
      have h117 := (ck_some h114).2
      clear h114
      refine x_icmp_ne (tgt := 37) C dX7_step_30 (by decide) q116 (by decide) (fun c118 => ?_) (fun c118 => ?_)
      · have h119 := if_n h117 c118
        clear h117
        refine lv_aload_n C.1 C.2.1 dX7_step_37 rfl (lv_at hl 0 rfl) ?_
        refine x_get C Z 0 rfl rfl i_X7_X7_step (k := 19) (by decide) (List.mem_of_getElem? (i := 1) rfl) rfl dX7_step_38 ?_
        refine lv_iload_n C.1 C.2.1 dX7_step_41 rfl (lv_at hl 1 rfl) ?_
        have q121 := (ix_some h119).1
        have h122 := (ix_some h119).2
        clear h119
        refine x_iald C Z 17 rfl (by decide) q121 dX7_step_42 ?_
        exact hJ43 sMt_15 sMc_15 v1_15 v2_15 (sMc_15.classLong v1_15) _ _ _ h122 Z (lv_sub hl [0, 1, 2] rfl)
      · have h120 := if_p h117 c118
        clear h117
        refine x_iconst C dX7_step_33 ?_
        refine lv_goto (tgt := 43) C.1 C.2.1 dX7_step_34 (by decide) ?_
        exact hJ43 sMt_15 sMc_15 v1_15 v2_15 0 _ _ _ h120 Z (lv_sub hl [0, 1, 2] rfl)
    · have h115 := if_p h112 c113
      clear h112
      refine x_bipush C dX7_step_25 (by decide) ?_
      have h123 := Option.some.inj h115
      subst h123
      exact hRet _ _ _ _ Z dX7_step_27
  refine lv_aload_n C.1 C.2.1 dX7_step_0 rfl (lv_at hl 0 rfl) ?_
  refine lv_iload_n C.1 C.2.1 dX7_step_1 rfl (lv_at hl 1 rfl) ?_
  obtain ⟨r124, hr124, h125⟩ := bd_some hf
  clear hf
  refine x_callV_i_id (As := [.int (iI v1)]) (rest := []) (q0 := 0) C Z (k_X7_isClass l g n aM sMv sMp sMt sMs sMc sMr v1 r124 hr124) gX7_step_X7_isClass yk_X7_isClass ⟨Nat.le_of_ble_eq_true rfl, Nat.le_of_ble_eq_true rfl⟩ rfl rfl ⟨Nat.zero_le _, Nat.zero_le _⟩ hl.1 rfl (Nat.le_of_ble_eq_true rfl) rfl dX7_step_2 (fun H locs Z => ?_)
  have q126 := (ck_some h125).1
  have h127 := (ck_some h125).2
  clear h125
  refine x_if_ne (tgt := 15) C dX7_step_5 (by decide) q126 (fun c128 => ?_) (fun c128 => ?_)
  · have h129 := if_n h127 c128
    clear h127
    exact hJ15 r124.2.1 r124.2.2 v1 v2 _ _ _ h129 Z (lv_sub hl [0, 1, 2] rfl)
  · have h130 := if_p h127 c128
    clear h127
    refine lv_iload_n C.1 C.2.1 dX7_step_8 rfl (lv_at hl 1 rfl) ?_
    refine x_iconst C dX7_step_9 ?_
    have q131 := (ck_some h130).1
    have h132 := (ck_some h130).2
    clear h130
    refine x_icmp_eq (tgt := 15) C dX7_step_10 (by decide) q131 (by decide) (fun c133 => ?_) (fun c133 => ?_)
    · have h134 := if_p h132 c133
      clear h132
      exact hJ15 r124.2.1 r124.2.2 v1 v2 _ _ _ h134 Z (lv_sub hl [0, 1, 2] rfl)
    · have h135 := if_n h132 c133
      clear h132
      refine x_iconst C dX7_step_13 ?_
      have h136 := Option.some.inj h135
      subst h136
      exact hRet _ _ _ _ Z dX7_step_14
abbrev rmX7_areWords : Room := { frames := 1, cells := 0, slots := 0, locals := 22 }
theorem yk_X7_areWords : xY yX7_areWords RX7 cX7_areWords 2 (some .boolean) wsX7_areWords rmX7_areWords 1 := ⟨⟨_, rfl⟩, by decide +kernel, rfl, rfl⟩
theorem i_X7_X7_areWords : ∀ w ∈ u_ws RX7 TX7 23, w ∈ wsX7_areWords := fun _ h => List.mem_cons_of_mem _ (List.mem_append_right _ h)
set_option maxHeartbeats 4000000 in
set_option maxRecDepth 100000 in
theorem k_X7_areWords (l : Launch) (g : xG) (n : Nat) (aM : Nat → Nat) (sMv : MvS) (sMp : MpS) (sMt : MtS) (sMs : MsS) (sMc : McS) (sMr : MrS) (v1 : Int) (r : Int) (hf : p_X7_areWords sMv v1 = some r) : xMi l yX7_areWords wsX7_areWords rmX7_areWords g [.ref (aM 0), .int (iI v1)] (wM g aM sMv sMp sMt sMs sMc sMr) (wM g aM sMv sMp sMt sMs sMc sMr) r := by
  refine x_ofW_z (own := RX7) (by decide) rfl rfl (Nat.le_of_ble_eq_true rfl) ?_
  intro p e s m args below meth c ls A QQ C hRet Z hl
  have hl : lv_has ls 2 [(0, .ref (aM 0)), (1, .int (iI v1))] := hl
  unfold p_X7_areWords at hf
  refine lv_iload_n C.1 C.2.1 dX7_areWords_0 rfl (lv_at hl 1 rfl) ?_
  refine x_iconst C dX7_areWords_1 ?_
  refine x_iconst C dX7_areWords_2 ?_
  refine lv_aload_n C.1 C.2.1 dX7_areWords_3 rfl (lv_at hl 0 rfl) ?_
  refine x_get C Z 0 rfl rfl i_X7_X7_areWords (k := 2) (by decide) (List.mem_of_getElem? (i := 1) rfl) rfl dX7_areWords_4 ?_
  refine lv_aload_n C.1 C.2.1 dX7_areWords_7 rfl (lv_at hl 0 rfl) ?_
  refine x_get C Z 0 rfl rfl i_X7_X7_areWords (k := 5) (by decide) (List.mem_of_getElem? (i := 2) rfl) rfl dX7_areWords_8 ?_
  have q1 := (ix_some hf).1
  have h2 := (ix_some hf).2
  clear hf
  refine x_iald C Z 3 rfl (by decide) q1 dX7_areWords_11 ?_
  refine x_ishl C dX7_areWords_12 ?_
  refine x_iconst C dX7_areWords_13 ?_
  refine x_isub C dX7_areWords_14 ?_
  obtain ⟨r3, hr3, h4⟩ := bd_some h2
  clear h2
  refine x_callS_i (As := [.int (iI v1), .int (iI 0), .int (iI ((bishl 1 (sMv.wordMany sMv.present)) - 1))]) (rest := []) C Z (k_X7_in l g n v1 0 ((bishl 1 (sMv.wordMany sMv.present)) - 1) r3 hr3) gX7_areWords_X7_in yk_X7_in ⟨Nat.le_of_ble_eq_true rfl, Nat.le_of_ble_eq_true rfl⟩ ⟨Nat.zero_le _, Nat.zero_le _⟩ hl.1 rfl (Nat.le_of_ble_eq_true rfl) rfl dX7_areWords_15 (fun H locs Z => ?_)
  have q5 := (bk_some h4).1
  have h6 := (bk_some h4).2
  clear h4
  have h7 := Option.some.inj h6
  subst h7
  exact hRet _ _ _ _ (x_bool q5) Z dX7_areWords_18
abbrev rmX7_wordsOf : Room := { frames := 1, cells := 0, slots := 0, locals := 23 }
theorem yk_X7_wordsOf : xY yX7_wordsOf RX7 cX7_wordsOf 5 (some .int) wsX7_wordsOf rmX7_wordsOf 2 := ⟨⟨_, rfl⟩, by decide +kernel, rfl, rfl⟩
theorem i_X7_X7_wordsOf : ∀ w ∈ u_ws RX7 TX7 23, w ∈ wsX7_wordsOf := fun _ h => List.mem_cons_of_mem _ (List.mem_append_right _ h)
set_option maxHeartbeats 4000000 in
set_option maxRecDepth 100000 in
theorem k_X7_wordsOf (l : Launch) (g : xG) (n : Nat) (aM : Nat → Nat) (sMv : MvS) (sMp : MpS) (sMt : MtS) (sMs : MsS) (sMc : McS) (sMr : MrS) (v1 : Int) (v2 : Int) (r : Int) (hf : p_X7_wordsOf n sMt sMs v1 v2 = some r) : xMi l yX7_wordsOf wsX7_wordsOf rmX7_wordsOf g [.ref (aM 0), .int (iI v1), .int (iI v2)] (wM g aM sMv sMp sMt sMs sMc sMr) (wM g aM sMv sMp sMt sMs sMc sMr) r := by
  refine x_ofW_i (own := RX7) (by decide) rfl rfl (Nat.le_of_ble_eq_true rfl) ?_
  intro p e s m args below meth c ls A QQ C hRet Z hl
  have hl : lv_has ls 5 [(0, .ref (aM 0)), (1, .int (iI v1)), (2, .int (iI v2))] := hl
  unfold p_X7_wordsOf at hf
  refine x_iconst C dX7_wordsOf_0 ?_
  refine lv_istore_n (lv' := [(3, .int (iI 0)), (0, .ref (aM 0)), (1, .int (iI v1)), (2, .int (iI v2))]) C.1 C.2.1 dX7_wordsOf_1 rfl hl (by decide) rfl (fun ls hl => ?_)
  refine lv_iload_n C.1 C.2.1 dX7_wordsOf_2 rfl (lv_at hl 2 rfl) ?_
  refine lv_istore (lv' := [(4, .int (iI v1)), (3, .int (iI 0)), (0, .ref (aM 0)), (1, .int (iI v1)), (2, .int (iI v2))]) C.1 C.2.1 dX7_wordsOf_3 hl (by decide) rfl (fun ls hl => ?_)
  obtain ⟨ex5, hl5, h29⟩ := bd_some hf
  clear hf
  have hK5 : ∀ (H : Heap) (locs : List Loc) (ls : Array Slot), xSt g A s (wM g aM sMv sMp sMt sMs sMc sMr) H locs → lv_has ls 5 [(3, .int (iI ex5))] → W p l e rmX7_wordsOf s m args below meth c H locs 0 0 QQ (F0 m 41 ls []) := by
    intro H locs ls Z hl
    have h30 := h29
    clear h29
    refine lv_iload_n C.1 C.2.1 dX7_wordsOf_41 rfl (lv_at hl 0 rfl) ?_
    have h31 := Option.some.inj h30
    subst h31
    exact hRet _ _ _ _ Z dX7_wordsOf_42
  have hL5 : ∀ (k5 : Nat) (z5 : Int × Int) (H : Heap) (locs : List Loc) (ls : Array Slot), lp (p_X7_wordsOf_b5 n sMt sMs v1 v2) k5 z5 = some ex5 → xSt g A s (wM g aM sMv sMp sMt sMs sMc sMr) H locs → lv_has ls 5 [(0, .ref (aM 0)), (1, .int (iI v1)), (2, .int (iI v2)), (3, .int (iI z5.1)), (4, .int (iI z5.2))] → W p l e rmX7_wordsOf s m args below meth c H locs 0 0 QQ (F0 m 5 ls []) := by
    intro k5
    induction k5 with
    | zero => intro z5 H locs ls h; exact (lp_0 h).elim
    | succ k5 ih5 =>
      intro z5 H locs ls h Z hl
      obtain ⟨x5, hb5, hx5⟩ := lp_s h
      clear h
      unfold p_X7_wordsOf_b5 at hb5
      refine lv_iload C.1 C.2.1 dX7_wordsOf_5 (lv_at hl 4 rfl) ?_
      refine lv_iload_n C.1 C.2.1 dX7_wordsOf_7 rfl (lv_at hl 1 rfl) ?_
      refine lv_aload_n C.1 C.2.1 dX7_wordsOf_8 rfl (lv_at hl 0 rfl) ?_
      refine lv_iload_n C.1 C.2.1 dX7_wordsOf_9 rfl (lv_at hl 1 rfl) ?_
      refine lv_iload_n C.1 C.2.1 dX7_wordsOf_10 rfl (lv_at hl 2 rfl) ?_
      obtain ⟨r15, hr15, h16⟩ := bd_some hb5
      clear hb5
      refine x_callV_i_id (As := [.int (iI v1), .int (iI v2)]) (rest := [.int (iI v1), .int (iI z5.2)]) (q0 := 0) C Z (k_X7_endsOf l g n aM sMv sMp sMt sMs sMc sMr v1 v2 r15 hr15) gX7_wordsOf_X7_endsOf yk_X7_endsOf ⟨Nat.le_of_ble_eq_true rfl, Nat.le_of_ble_eq_true rfl⟩ rfl rfl ⟨Nat.zero_le _, Nat.zero_le _⟩ hl.1 rfl (Nat.le_of_ble_eq_true rfl) rfl dX7_wordsOf_11 (fun H locs Z => ?_)
      refine x_iadd C dX7_wordsOf_14 ?_
      have q17 := (ck_some h16).1
      have h18 := (ck_some h16).2
      clear h16
      have q19 := (ck_some h18).1
      have h20 := (ck_some h18).2
      clear h18
      refine x_icmp_ge (tgt := 41) C dX7_wordsOf_15 (by decide) q17 q19 (fun c21 => ?_) (fun c21 => ?_)
      · have h22 := if_n h20 c21
        clear h20
        cases h22
        have h24 := lp_R hx5
        subst h24
        exact hK5 _ _ _ Z (lv_sub hl [3] rfl)
      · have h23 := if_p h20 c21
        clear h20
        refine lv_iload_n C.1 C.2.1 dX7_wordsOf_18 rfl (lv_at hl 3 rfl) ?_
        refine x_iconst C dX7_wordsOf_19 ?_
        refine lv_aload_n C.1 C.2.1 dX7_wordsOf_20 rfl (lv_at hl 0 rfl) ?_
        refine x_get C Z 0 rfl rfl i_X7_X7_wordsOf (k := 9) (by decide) (List.mem_of_getElem? (i := 1) rfl) rfl dX7_wordsOf_21 ?_
        refine lv_aload_n C.1 C.2.1 dX7_wordsOf_24 rfl (lv_at hl 0 rfl) ?_
        refine x_get C Z 0 rfl rfl i_X7_X7_wordsOf (k := 15) (by decide) (List.mem_of_getElem? (i := 2) rfl) rfl dX7_wordsOf_25 ?_
        refine lv_iload C.1 C.2.1 dX7_wordsOf_28 (lv_at hl 4 rfl) ?_
        have q25 := (ix_some h23).1
        have h26 := (ix_some h23).2
        clear h23
        refine x_iald C Z 13 rfl (by decide) q25 dX7_wordsOf_30 ?_
        have q27 := (ix_some h26).1
        have h28 := (ix_some h26).2
        clear h26
        refine x_iald C Z 7 rfl (by decide) q27 dX7_wordsOf_31 ?_
        refine x_ishl C dX7_wordsOf_32 ?_
        refine x_ior C dX7_wordsOf_33 ?_
        refine lv_istore_n (lv' := [(3, .int (iI (bior z5.1 (bishl 1 (sMt.wordOf (sMs.sorted z5.2)))))), (0, .ref (aM 0)), (1, .int (iI v1)), (2, .int (iI v2)), (4, .int (iI z5.2))]) C.1 C.2.1 dX7_wordsOf_34 rfl hl (by decide) rfl (fun ls hl => ?_)
        refine x_iinc (lv' := [(4, .int (iI (z5.2 + 1))), (3, .int (iI (bior z5.1 (bishl 1 (sMt.wordOf (sMs.sorted z5.2)))))), (0, .ref (aM 0)), (1, .int (iI v1)), (2, .int (iI v2))]) C dX7_wordsOf_35 hl (k := 4) rfl (by decide) rfl (fun ls hl => ?_)
        refine lv_goto (tgt := 5) C.1 C.2.1 dX7_wordsOf_38 (by decide) ?_
        cases h28
        exact ih5 (bior z5.1 (bishl 1 (sMt.wordOf (sMs.sorted z5.2))), z5.2 + 1) _ _ _ (lp_L2 hx5) Z (lv_sub hl [2, 3, 4, 1, 0] rfl)
  exact hL5 n (0, v1) _ _ _ hl5 Z (lv_sub hl [2, 3, 4, 1, 0] rfl)
abbrev rmX7_sizeOf : Room := { frames := 0, cells := 0, slots := 0, locals := 0 }
theorem yk_X7_sizeOf : xY yX7_sizeOf RX7 cX7_sizeOf 3 (some .int) wsX7_sizeOf rmX7_sizeOf 1 := ⟨⟨_, rfl⟩, by decide +kernel, rfl, rfl⟩
set_option maxHeartbeats 4000000 in
set_option maxRecDepth 100000 in
theorem k_X7_sizeOf (l : Launch) (g : xG) (n : Nat) (v0 : Int) (r : Int) (hf : p_X7_sizeOf n v0 = some r) : xMi l yX7_sizeOf wsX7_sizeOf rmX7_sizeOf g [.int (iI v0)] ([]) ([]) r := by
  refine x_ofW_i (own := RX7) (by decide) rfl rfl (Nat.le_of_ble_eq_true rfl) ?_
  intro p e s m args below meth c ls A QQ C hRet Z hl
  have hl : lv_has ls 3 [(0, .int (iI v0))] := hl
  unfold p_X7_sizeOf at hf
  refine x_iconst C dX7_sizeOf_0 ?_
  refine lv_istore_n (lv' := [(1, .int (iI 0)), (0, .int (iI v0))]) C.1 C.2.1 dX7_sizeOf_1 rfl hl (by decide) rfl (fun ls hl => ?_)
  refine x_iconst C dX7_sizeOf_2 ?_
  refine lv_istore_n (lv' := [(2, .int (iI 0)), (1, .int (iI 0)), (0, .int (iI v0))]) C.1 C.2.1 dX7_sizeOf_3 rfl hl (by decide) rfl (fun ls hl => ?_)
  obtain ⟨ex4, hl4, h13⟩ := bd_some hf
  clear hf
  have hK4 : ∀ (H : Heap) (locs : List Loc) (ls : Array Slot), xSt g A s ([]) H locs → lv_has ls 3 [(1, .int (iI ex4))] → W p l e rmX7_sizeOf s m args below meth c H locs 0 0 QQ (F0 m 24 ls []) := by
    intro H locs ls Z hl
    have h14 := h13
    clear h13
    refine lv_iload_n C.1 C.2.1 dX7_sizeOf_24 rfl (lv_at hl 0 rfl) ?_
    have h15 := Option.some.inj h14
    subst h15
    exact hRet _ _ _ _ Z dX7_sizeOf_25
  have hL4 : ∀ (k4 : Nat) (z4 : Int × Int) (H : Heap) (locs : List Loc) (ls : Array Slot), lp (p_X7_sizeOf_b4 n v0) k4 z4 = some ex4 → xSt g A s ([]) H locs → lv_has ls 3 [(0, .int (iI v0)), (1, .int (iI z4.1)), (2, .int (iI z4.2))] → W p l e rmX7_sizeOf s m args below meth c H locs 0 0 QQ (F0 m 4 ls []) := by
    intro k4
    induction k4 with
    | zero => intro z4 H locs ls h; exact (lp_0 h).elim
    | succ k4 ih4 =>
      intro z4 H locs ls h Z hl
      obtain ⟨x4, hb4, hx4⟩ := lp_s h
      clear h
      unfold p_X7_sizeOf_b4 at hb4
      refine lv_iload_n C.1 C.2.1 dX7_sizeOf_4 rfl (lv_at hl 2 rfl) ?_
      refine x_bipush C dX7_sizeOf_5 (by decide) ?_
      have q7 := (ck_some hb4).1
      have h8 := (ck_some hb4).2
      clear hb4
      refine x_icmp_ge (tgt := 24) C dX7_sizeOf_7 (by decide) q7 (by decide) (fun c9 => ?_) (fun c9 => ?_)
      · have h10 := if_n h8 c9
        clear h8
        cases h10
        have h12 := lp_R hx4
        subst h12
        exact hK4 _ _ _ Z (lv_sub hl [1] rfl)
      · have h11 := if_p h8 c9
        clear h8
        refine lv_iload_n C.1 C.2.1 dX7_sizeOf_10 rfl (lv_at hl 1 rfl) ?_
        refine lv_iload_n C.1 C.2.1 dX7_sizeOf_11 rfl (lv_at hl 0 rfl) ?_
        refine lv_iload_n C.1 C.2.1 dX7_sizeOf_12 rfl (lv_at hl 2 rfl) ?_
        refine x_ishr C dX7_sizeOf_13 ?_
        refine x_iconst C dX7_sizeOf_14 ?_
        refine x_iand C dX7_sizeOf_15 ?_
        refine x_iadd C dX7_sizeOf_16 ?_
        refine lv_istore_n (lv' := [(1, .int (iI (z4.1 + (biand (bishr v0 z4.2) 1)))), (0, .int (iI v0)), (2, .int (iI z4.2))]) C.1 C.2.1 dX7_sizeOf_17 rfl hl (by decide) rfl (fun ls hl => ?_)
        refine x_iinc (lv' := [(2, .int (iI (z4.2 + 1))), (1, .int (iI (z4.1 + (biand (bishr v0 z4.2) 1)))), (0, .int (iI v0))]) C dX7_sizeOf_18 hl (k := 2) rfl (by decide) rfl (fun ls hl => ?_)
        refine lv_goto (tgt := 4) C.1 C.2.1 dX7_sizeOf_21 (by decide) ?_
        cases h11
        exact ih4 (z4.1 + (biand (bishr v0 z4.2) 1), z4.2 + 1) _ _ _ (lp_L2 hx4) Z (lv_sub hl [2, 1, 0] rfl)
  exact hL4 n (0, 0) _ _ _ hl4 Z (lv_sub hl [2, 1, 0] rfl)
abbrev rmX7_common : Room := { frames := 4, cells := 0, slots := 0, locals := 93 }
theorem yk_X7_common : xY yX7_common RX7 cX7_common 7 (some .int) wsX7_common rmX7_common 2 := ⟨⟨_, rfl⟩, by decide +kernel, rfl, rfl⟩
theorem i_X7_X7_common : ∀ w ∈ u_ws RX7 TX7 23, w ∈ wsX7_common := fun _ h => List.mem_cons_of_mem _ (List.mem_append_right _ h)
set_option maxHeartbeats 4000000 in
set_option maxRecDepth 100000 in
theorem k_X7_common (l : Launch) (g : xG) (n : Nat) (aM : Nat → Nat) (sMv : MvS) (sMp : MpS) (sMt : MtS) (sMs : MsS) (sMc : McS) (sMr : MrS) (v1 : Int) (v2 : Int) (r : Int × MpS × MtS × MsS) (hf : p_X7_common n sMv sMp sMt sMs v1 v2 = some r) : xMi l yX7_common wsX7_common rmX7_common g [.ref (aM 0), .int (iI v1), .int (iI v2)] (wM g aM sMv sMp sMt sMs sMc sMr) (wM g aM sMv r.2.1 r.2.2.1 r.2.2.2 sMc sMr) r.1 := by
  refine x_ofW_i (own := RX7) (by decide) rfl rfl (Nat.le_of_ble_eq_true rfl) ?_
  intro p e s m args below meth c ls A QQ C hRet Z hl
  have hl : lv_has ls 7 [(0, .ref (aM 0)), (1, .int (iI v1)), (2, .int (iI v2))] := hl
  unfold p_X7_common at hf
  refine lv_aload_n C.1 C.2.1 dX7_common_0 rfl (lv_at hl 0 rfl) ?_
  refine lv_iload_n C.1 C.2.1 dX7_common_1 rfl (lv_at hl 1 rfl) ?_
  obtain ⟨r1, hr1, h2⟩ := bd_some hf
  clear hf
  refine x_callV_i_id (As := [.int (iI v1)]) (rest := []) (q0 := 0) C Z (k_X7_areWords l g n aM sMv sMp sMt sMs sMc sMr v1 r1 hr1) gX7_common_X7_areWords yk_X7_areWords ⟨Nat.le_of_ble_eq_true rfl, Nat.le_of_ble_eq_true rfl⟩ rfl rfl ⟨Nat.zero_le _, Nat.zero_le _⟩ hl.1 rfl (Nat.le_of_ble_eq_true rfl) rfl dX7_common_2 (fun H locs Z => ?_)
  have q3 := (ck_some h2).1
  have h4 := (ck_some h2).2
  clear h2
  refine x_if_ne (tgt := 10) C dX7_common_5 (by decide) q3 (fun c5 => ?_) (fun c5 => ?_)
  · have h6 := if_n h4 c5
    clear h4
    refine lv_iload_n C.1 C.2.1 dX7_common_10 rfl (lv_at hl 2 rfl) ?_
    refine x_iconst C dX7_common_11 ?_
    refine x_bipush C dX7_common_12 (by decide) ?_
    obtain ⟨r8, hr8, h9⟩ := bd_some h6
    clear h6
    refine x_callS_i (As := [.int (iI v2), .int (iI 1), .int (iI 6)]) (rest := []) C Z (k_X7_in l g n v2 1 6 r8 hr8) gX7_common_X7_in yk_X7_in ⟨Nat.le_of_ble_eq_true rfl, Nat.le_of_ble_eq_true rfl⟩ ⟨Nat.zero_le _, Nat.zero_le _⟩ hl.1 rfl (Nat.le_of_ble_eq_true rfl) rfl dX7_common_14 (fun H locs Z => ?_)
    have q10 := (ck_some h9).1
    have h11 := (ck_some h9).2
    clear h9
    refine x_if_ne (tgt := 23) C dX7_common_17 (by decide) q10 (fun c12 => ?_) (fun c12 => ?_)
    · have h13 := if_n h11 c12
      clear h11
      refine lv_aload_n C.1 C.2.1 dX7_common_23 rfl (lv_at hl 0 rfl) ?_
      obtain ⟨r15, hr15, h16⟩ := bd_some h13
      clear h13
      refine x_callV_v_id (As := []) (rest := []) (q0 := 0) C Z (k_X7_layPresent l g n aM sMv sMp sMt sMs sMc sMr r15 hr15) gX7_common_X7_layPresent yk_X7_layPresent ⟨Nat.le_of_ble_eq_true rfl, Nat.le_of_ble_eq_true rfl⟩ rfl rfl ⟨Nat.zero_le _, Nat.zero_le _⟩ hl.1 rfl (Nat.le_of_ble_eq_true rfl) rfl dX7_common_24 (fun H locs Z => ?_)
      refine lv_aload_n C.1 C.2.1 dX7_common_27 rfl (lv_at hl 0 rfl) ?_
      obtain ⟨r17, hr17, h18⟩ := bd_some h16
      clear h16
      refine x_callV_v_id (As := []) (rest := []) (q0 := 0) C Z (k_X7_sort l g n aM sMv sMp r15 sMs sMc sMr r17 hr17) gX7_common_X7_sort yk_X7_sort ⟨Nat.le_of_ble_eq_true rfl, Nat.le_of_ble_eq_true rfl⟩ rfl rfl ⟨Nat.zero_le _, Nat.zero_le _⟩ hl.1 rfl (Nat.le_of_ble_eq_true rfl) rfl dX7_common_28 (fun H locs Z => ?_)
      refine x_bipush C dX7_common_31 (by decide) ?_
      refine lv_istore_n (lv' := [(3, .int (iI (-6))), (0, .ref (aM 0)), (1, .int (iI v1)), (2, .int (iI v2))]) C.1 C.2.1 dX7_common_33 rfl hl (by decide) rfl (fun ls hl => ?_)
      refine x_iconst C dX7_common_34 ?_
      refine lv_istore (lv' := [(4, .int (iI 0)), (3, .int (iI (-6))), (0, .ref (aM 0)), (1, .int (iI v1)), (2, .int (iI v2))]) C.1 C.2.1 dX7_common_35 hl (by decide) rfl (fun ls hl => ?_)
      refine x_iconst C dX7_common_37 ?_
      refine lv_istore (lv' := [(5, .int (iI 0)), (4, .int (iI 0)), (3, .int (iI (-6))), (0, .ref (aM 0)), (1, .int (iI v1)), (2, .int (iI v2))]) C.1 C.2.1 dX7_common_38 hl (by decide) rfl (fun ls hl => ?_)
      obtain ⟨ex40, hl40, h167⟩ := bd_some h18
      clear h18
      have hK40 : ∀ (H : Heap) (locs : List Loc) (ls : Array Slot), xSt g A s (wM g aM sMv sMp r15 r17 sMc sMr) H locs → lv_has ls 7 [(0, .ref (aM 0)), (3, .int (iI ex40.1)), (4, .int (iI ex40.2))] → W p l e rmX7_common s m args below meth c H locs 0 0 QQ (F0 m 127 ls []) := by
        intro H locs ls Z hl
        have h168 := h167
        clear h167
        refine lv_iload_n C.1 C.2.1 dX7_common_127 rfl (lv_at hl 1 rfl) ?_
        have q169 := (ck_some h168).1
        have h170 := (ck_some h168).2
        clear h168
        refine x_if_ge (tgt := 136) C dX7_common_128 (by decide) q169 (fun c171 => ?_) (fun c171 => ?_)
        · have h172 := if_n h170 c171
          clear h170
          refine lv_aload_n C.1 C.2.1 dX7_common_136 rfl (lv_at hl 0 rfl) ?_
          refine lv_iload_n C.1 C.2.1 dX7_common_137 rfl (lv_at hl 1 rfl) ?_
          refine lv_iload C.1 C.2.1 dX7_common_138 (lv_at hl 2 rfl) ?_
          obtain ⟨r174, hr174, h175⟩ := bd_some h172
          clear h172
          refine x_callV_i_id (As := [.int (iI ex40.1), .int (iI ex40.2)]) (rest := []) (q0 := 0) C Z (k_X7_write l g n aM sMv sMp r15 r17 sMc sMr ex40.1 ex40.2 r174 hr174) gX7_common_X7_write yk_X7_write ⟨Nat.le_of_ble_eq_true rfl, Nat.le_of_ble_eq_true rfl⟩ rfl rfl ⟨Nat.zero_le _, Nat.zero_le _⟩ hl.1 rfl (Nat.le_of_ble_eq_true rfl) rfl dX7_common_140 (fun H locs Z => ?_)
          have h176 := Option.some.inj h175
          subst h176
          exact hRet _ _ _ _ Z dX7_common_143
        · have h173 := if_p h170 c171
          clear h170
          refine x_bipush C dX7_common_131 (by decide) ?_
          refine lv_goto (tgt := 143) C.1 C.2.1 dX7_common_133 (by decide) ?_
          have h177 := Option.some.inj h173
          subst h177
          exact hRet _ _ _ _ Z dX7_common_143
      have hL40 : ∀ (k40 : Nat) (z40 : Int × Int × Int) (H : Heap) (locs : List Loc) (ls : Array Slot), lp (p_X7_common_b40 n r15 r17 v1 v2) k40 z40 = some ex40 → xSt g A s (wM g aM sMv sMp r15 r17 sMc sMr) H locs → lv_has ls 7 [(0, .ref (aM 0)), (1, .int (iI v1)), (2, .int (iI v2)), (3, .int (iI z40.1)), (4, .int (iI z40.2.1)), (5, .int (iI z40.2.2))] → W p l e rmX7_common s m args below meth c H locs 0 0 QQ (F0 m 40 ls []) := by
        intro k40
        induction k40 with
        | zero => intro z40 H locs ls h; exact (lp_0 h).elim
        | succ k40 ih40 =>
          intro z40 H locs ls h Z hl
          obtain ⟨x40, hb40, hx40⟩ := lp_s h
          clear h
          unfold p_X7_common_b40 at hb40
          refine lv_iload C.1 C.2.1 dX7_common_40 (lv_at hl 5 rfl) ?_
          refine lv_aload_n C.1 C.2.1 dX7_common_42 rfl (lv_at hl 0 rfl) ?_
          refine x_get C Z 0 rfl rfl i_X7_X7_common (k := 12) (by decide) (List.mem_of_getElem? (i := 1) rfl) rfl dX7_common_43 ?_
          refine x_iconst C dX7_common_46 ?_
          refine x_iald C Z 10 rfl (by decide) (by decide) dX7_common_47 ?_
          have q95 := (ck_some hb40).1
          have h96 := (ck_some hb40).2
          clear hb40
          have q97 := (ck_some h96).1
          have h98 := (ck_some h96).2
          clear h96
          refine x_icmp_ge (tgt := 127) C dX7_common_48 (by decide) q95 q97 (fun c99 => ?_) (fun c99 => ?_)
          · have h100 := if_n h98 c99
            clear h98
            cases h100
            have h102 := lp_R hx40
            subst h102
            exact hK40 _ _ _ Z (lv_sub hl [0, 3, 4] rfl)
          · have h101 := if_p h98 c99
            clear h98
            refine lv_aload_n C.1 C.2.1 dX7_common_51 rfl (lv_at hl 0 rfl) ?_
            refine x_get C Z 0 rfl rfl i_X7_X7_common (k := 16) (by decide) (List.mem_of_getElem? (i := 2) rfl) rfl dX7_common_52 ?_
            refine lv_iload C.1 C.2.1 dX7_common_55 (lv_at hl 5 rfl) ?_
            have q103 := (ix_some h101).1
            have h104 := (ix_some h101).2
            clear h101
            refine x_iald C Z 14 rfl (by decide) q103 dX7_common_57 ?_
            refine x_iconst C dX7_common_58 ?_
            refine x_iadd C dX7_common_59 ?_
            refine lv_istore (lv' := [(6, .int (iI ((r17.near z40.2.2) + 1))), (0, .ref (aM 0)), (1, .int (iI v1)), (2, .int (iI v2)), (3, .int (iI z40.1)), (4, .int (iI z40.2.1)), (5, .int (iI z40.2.2))]) C.1 C.2.1 dX7_common_60 hl (by decide) rfl (fun ls hl => ?_)
            obtain ⟨ex62, hl62, h165⟩ := bd_some h104
            clear h104
            have hK62 : ∀ (H : Heap) (locs : List Loc) (ls : Array Slot), xSt g A s (wM g aM sMv sMp r15 r17 sMc sMr) H locs → lv_has ls 7 [(0, .ref (aM 0)), (1, .int (iI v1)), (2, .int (iI v2)), (3, .int (iI ex62.1)), (4, .int (iI ex62.2)), (5, .int (iI z40.2.2))] → W p l e rmX7_common s m args below meth c H locs 0 0 QQ (F0 m 121 ls []) := by
              intro H locs ls Z hl
              have h166 := h165
              clear h165
              refine x_iinc (lv' := [(5, .int (iI (z40.2.2 + 1))), (0, .ref (aM 0)), (1, .int (iI v1)), (2, .int (iI v2)), (3, .int (iI ex62.1)), (4, .int (iI ex62.2))]) C dX7_common_121 hl (k := 5) rfl (by decide) rfl (fun ls hl => ?_)
              refine lv_goto (tgt := 40) C.1 C.2.1 dX7_common_124 (by decide) ?_
              cases h166
              exact ih40 (ex62.1, ex62.2, z40.2.2 + 1) _ _ _ (lp_L2 hx40) Z (lv_sub hl [1, 2, 3, 4, 5, 0] rfl)
            have hL62 : ∀ (k62 : Nat) (z62 : Int × Int × Int) (H : Heap) (locs : List Loc) (ls : Array Slot), lp (p_X7_common_b62 n r15 r17 v1 v2 z40.2.2) k62 z62 = some ex62 → xSt g A s (wM g aM sMv sMp r15 r17 sMc sMr) H locs → lv_has ls 7 [(0, .ref (aM 0)), (1, .int (iI v1)), (2, .int (iI v2)), (3, .int (iI z62.1)), (4, .int (iI z62.2.1)), (5, .int (iI z40.2.2)), (6, .int (iI z62.2.2))] → W p l e rmX7_common s m args below meth c H locs 0 0 QQ (F0 m 62 ls []) := by
              intro k62
              induction k62 with
              | zero => intro z62 H locs ls h; exact (lp_0 h).elim
              | succ k62 ih62 =>
                intro z62 H locs ls h Z hl
                obtain ⟨x62, hb62, hx62⟩ := lp_s h
                clear h
                unfold p_X7_common_b62 at hb62
                refine lv_iload C.1 C.2.1 dX7_common_62 (lv_at hl 6 rfl) ?_
                refine lv_aload_n C.1 C.2.1 dX7_common_64 rfl (lv_at hl 0 rfl) ?_
                refine x_iconst C dX7_common_65 ?_
                refine lv_aload_n C.1 C.2.1 dX7_common_66 rfl (lv_at hl 0 rfl) ?_
                refine x_get C Z 0 rfl rfl i_X7_X7_common (k := 15) (by decide) (List.mem_of_getElem? (i := 3) rfl) rfl dX7_common_67 ?_
                refine lv_iload C.1 C.2.1 dX7_common_70 (lv_at hl 5 rfl) ?_
                have q135 := (ix_some hb62).1
                have h136 := (ix_some hb62).2
                clear hb62
                refine x_iald C Z 13 rfl (by decide) q135 dX7_common_72 ?_
                obtain ⟨r137, hr137, h138⟩ := bd_some h136
                clear h136
                refine x_callV_i_id (As := [.int (iI 0), .int (iI (r17.sorted z40.2.2))]) (rest := [.int (iI z62.2.2)]) (q0 := 0) C Z (k_X7_rest l g n aM sMv sMp r15 r17 sMc sMr 0 (r17.sorted z40.2.2) r137 hr137) gX7_common_X7_rest yk_X7_rest ⟨Nat.le_of_ble_eq_true rfl, Nat.le_of_ble_eq_true rfl⟩ rfl rfl ⟨Nat.zero_le _, Nat.zero_le _⟩ hl.1 rfl (Nat.le_of_ble_eq_true rfl) rfl dX7_common_73 (fun H locs Z => ?_)
                have q139 := (ck_some h138).1
                have h140 := (ck_some h138).2
                clear h138
                have q141 := (ck_some h140).1
                have h142 := (ck_some h140).2
                clear h140
                refine x_icmp_gt (tgt := 121) C dX7_common_76 (by decide) q139 q141 (fun c143 => ?_) (fun c143 => ?_)
                · have h144 := if_p h142 c143
                  clear h142
                  cases h144
                  have h146 := lp_R hx62
                  subst h146
                  exact hK62 _ _ _ Z (lv_sub hl [0, 1, 2, 3, 4, 5] rfl)
                · have h145 := if_n h142 c143
                  clear h142
                  refine lv_iload C.1 C.2.1 dX7_common_79 (lv_at hl 6 rfl) ?_
                  refine lv_iload C.1 C.2.1 dX7_common_81 (lv_at hl 4 rfl) ?_
                  have q147 := (ck_some h145).1
                  have h148 := (ck_some h145).2
                  clear h145
                  refine x_icmp_le (tgt := 115) C dX7_common_83 (by decide) q139 q147 (fun c149 => ?_) (fun c149 => ?_)
                  · have h150 := if_n h148 c149
                    clear h148
                    refine x_iinc (lv' := [(6, .int (iI (z62.2.2 + 1))), (0, .ref (aM 0)), (1, .int (iI v1)), (2, .int (iI v2)), (3, .int (iI z62.1)), (4, .int (iI z62.2.1)), (5, .int (iI z40.2.2))]) C dX7_common_115 hl (k := 6) rfl (by decide) rfl (fun ls hl => ?_)
                    refine lv_goto (tgt := 62) C.1 C.2.1 dX7_common_118 (by decide) ?_
                    cases h150
                    exact ih62 (z62.1, z62.2.1, z62.2.2 + 1) _ _ _ (lp_L2 hx62) Z (lv_sub hl [1, 2, 3, 4, 5, 6, 0] rfl)
                  · have h151 := if_p h148 c149
                    clear h148
                    refine lv_aload_n C.1 C.2.1 dX7_common_86 rfl (lv_at hl 0 rfl) ?_
                    refine lv_iload C.1 C.2.1 dX7_common_87 (lv_at hl 5 rfl) ?_
                    refine lv_iload C.1 C.2.1 dX7_common_89 (lv_at hl 6 rfl) ?_
                    obtain ⟨r152, hr152, h153⟩ := bd_some h151
                    clear h151
                    refine x_callV_i_id (As := [.int (iI z40.2.2), .int (iI z62.2.2)]) (rest := []) (q0 := 0) C Z (k_X7_wordsOf l g n aM sMv sMp r15 r17 sMc sMr z40.2.2 z62.2.2 r152 hr152) gX7_common_X7_wordsOf yk_X7_wordsOf ⟨Nat.le_of_ble_eq_true rfl, Nat.le_of_ble_eq_true rfl⟩ rfl rfl ⟨Nat.zero_le _, Nat.zero_le _⟩ hl.1 rfl (Nat.le_of_ble_eq_true rfl) rfl dX7_common_91 (fun H locs Z => ?_)
                    refine lv_iload_n C.1 C.2.1 dX7_common_94 rfl (lv_at hl 1 rfl) ?_
                    refine x_iand C dX7_common_95 ?_
                    obtain ⟨r154, hr154, h155⟩ := bd_some h153
                    clear h153
                    refine x_callS_i (As := [.int (iI (biand r152 v1))]) (rest := []) C Z (k_X7_sizeOf l g n (biand r152 v1) r154 hr154) gX7_common_X7_sizeOf yk_X7_sizeOf ⟨Nat.le_of_ble_eq_true rfl, Nat.le_of_ble_eq_true rfl⟩ ⟨Nat.zero_le _, Nat.zero_le _⟩ hl.1 rfl (Nat.le_of_ble_eq_true rfl) rfl dX7_common_96 (fun H locs Z => ?_)
                    refine lv_iload_n C.1 C.2.1 dX7_common_99 rfl (lv_at hl 2 rfl) ?_
                    have q156 := (ck_some h155).1
                    have h157 := (ck_some h155).2
                    clear h155
                    have q158 := (ck_some h157).1
                    have h159 := (ck_some h157).2
                    clear h157
                    refine x_icmp_lt (tgt := 115) C dX7_common_100 (by decide) q156 q158 (fun c160 => ?_) (fun c160 => ?_)
                    · have h161 := if_p h159 c160
                      clear h159
                      refine x_iinc (lv' := [(6, .int (iI (z62.2.2 + 1))), (0, .ref (aM 0)), (1, .int (iI v1)), (2, .int (iI v2)), (3, .int (iI z62.1)), (4, .int (iI z62.2.1)), (5, .int (iI z40.2.2))]) C dX7_common_115 hl (k := 6) rfl (by decide) rfl (fun ls hl => ?_)
                      refine lv_goto (tgt := 62) C.1 C.2.1 dX7_common_118 (by decide) ?_
                      cases h161
                      exact ih62 (z62.1, z62.2.1, z62.2.2 + 1) _ _ _ (lp_L2 hx62) Z (lv_sub hl [1, 2, 3, 4, 5, 6, 0] rfl)
                    · have h162 := if_n h159 c160
                      clear h159
                      refine lv_aload_n C.1 C.2.1 dX7_common_103 rfl (lv_at hl 0 rfl) ?_
                      refine x_get C Z 0 rfl rfl i_X7_X7_common (k := 15) (by decide) (List.mem_of_getElem? (i := 3) rfl) rfl dX7_common_104 ?_
                      refine lv_iload C.1 C.2.1 dX7_common_107 (lv_at hl 5 rfl) ?_
                      refine x_iald C Z 13 rfl (by decide) q135 dX7_common_109 ?_
                      refine lv_istore_n (lv' := [(3, .int (iI (r17.sorted z40.2.2))), (0, .ref (aM 0)), (1, .int (iI v1)), (2, .int (iI v2)), (4, .int (iI z62.2.1)), (5, .int (iI z40.2.2)), (6, .int (iI z62.2.2))]) C.1 C.2.1 dX7_common_110 rfl hl (by decide) rfl (fun ls hl => ?_)
                      refine lv_iload C.1 C.2.1 dX7_common_111 (lv_at hl 6 rfl) ?_
                      refine lv_istore (lv' := [(4, .int (iI z62.2.2)), (3, .int (iI (r17.sorted z40.2.2))), (0, .ref (aM 0)), (1, .int (iI v1)), (2, .int (iI v2)), (5, .int (iI z40.2.2)), (6, .int (iI z62.2.2))]) C.1 C.2.1 dX7_common_113 hl (by decide) rfl (fun ls hl => ?_)
                      refine x_iinc (lv' := [(6, .int (iI (z62.2.2 + 1))), (4, .int (iI z62.2.2)), (3, .int (iI (r17.sorted z40.2.2))), (0, .ref (aM 0)), (1, .int (iI v1)), (2, .int (iI v2)), (5, .int (iI z40.2.2))]) C dX7_common_115 hl (k := 6) rfl (by decide) rfl (fun ls hl => ?_)
                      refine lv_goto (tgt := 62) C.1 C.2.1 dX7_common_118 (by decide) ?_
                      cases h162
                      exact ih62 (r17.sorted z40.2.2, z62.2.2, z62.2.2 + 1) _ _ _ (lp_L2 hx62) Z (lv_sub hl [3, 4, 5, 2, 1, 6, 0] rfl)
            exact hL62 n (z40.1, z40.2.1, (r17.near z40.2.2) + 1) _ _ _ hl62 Z (lv_sub hl [1, 2, 3, 4, 5, 6, 0] rfl)
      exact hL40 n ((-6), 0, 0) _ _ _ hl40 Z (lv_sub hl [3, 4, 5, 2, 1, 0] rfl)
    · have h14 := if_p h11 c12
      clear h11
      refine x_bipush C dX7_common_20 (by decide) ?_
      have h178 := Option.some.inj h14
      subst h178
      exact hRet _ _ _ _ Z dX7_common_22
  · have h7 := if_p h4 c5
    clear h4
    refine x_iconst C dX7_common_8 ?_
    have h179 := Option.some.inj h7
    subst h179
    exact hRet _ _ _ _ Z dX7_common_9
abbrev rmX7_unique : Room := { frames := 4, cells := 0, slots := 0, locals := 93 }
theorem yk_X7_unique : xY yX7_unique RX7 cX7_unique 6 (some .int) wsX7_unique rmX7_unique 1 := ⟨⟨_, rfl⟩, by decide +kernel, rfl, rfl⟩
theorem i_X7_X7_unique : ∀ w ∈ u_ws RX7 TX7 23, w ∈ wsX7_unique := fun _ h => List.mem_cons_of_mem _ (List.mem_append_right _ h)
set_option maxHeartbeats 4000000 in
set_option maxRecDepth 100000 in
theorem k_X7_unique (l : Launch) (g : xG) (n : Nat) (aM : Nat → Nat) (sMv : MvS) (sMp : MpS) (sMt : MtS) (sMs : MsS) (sMc : McS) (sMr : MrS) (v1 : Int) (r : Int × MpS × MtS × MsS) (hf : p_X7_unique n sMv sMp sMt sMs v1 = some r) : xMi l yX7_unique wsX7_unique rmX7_unique g [.ref (aM 0), .int (iI v1)] (wM g aM sMv sMp sMt sMs sMc sMr) (wM g aM sMv r.2.1 r.2.2.1 r.2.2.2 sMc sMr) r.1 := by
  refine x_ofW_i (own := RX7) (by decide) rfl rfl (Nat.le_of_ble_eq_true rfl) ?_
  intro p e s m args below meth c ls A QQ C hRet Z hl
  have hl : lv_has ls 6 [(0, .ref (aM 0)), (1, .int (iI v1))] := hl
  unfold p_X7_unique at hf
  refine lv_aload_n C.1 C.2.1 dX7_unique_0 rfl (lv_at hl 0 rfl) ?_
  refine lv_iload_n C.1 C.2.1 dX7_unique_1 rfl (lv_at hl 1 rfl) ?_
  obtain ⟨r1, hr1, h2⟩ := bd_some hf
  clear hf
  refine x_callV_i_id (As := [.int (iI v1)]) (rest := []) (q0 := 0) C Z (k_X7_areWords l g n aM sMv sMp sMt sMs sMc sMr v1 r1 hr1) gX7_unique_X7_areWords yk_X7_areWords ⟨Nat.le_of_ble_eq_true rfl, Nat.le_of_ble_eq_true rfl⟩ rfl rfl ⟨Nat.zero_le _, Nat.zero_le _⟩ hl.1 rfl (Nat.le_of_ble_eq_true rfl) rfl dX7_unique_2 (fun H locs Z => ?_)
  have q3 := (ck_some h2).1
  have h4 := (ck_some h2).2
  clear h2
  refine x_if_ne (tgt := 10) C dX7_unique_5 (by decide) q3 (fun c5 => ?_) (fun c5 => ?_)
  · have h6 := if_n h4 c5
    clear h4
    refine lv_iload_n C.1 C.2.1 dX7_unique_10 rfl (lv_at hl 1 rfl) ?_
    have q8 := (ck_some h6).1
    have h9 := (ck_some h6).2
    clear h6
    refine x_if_ne (tgt := 17) C dX7_unique_11 (by decide) q8 (fun c10 => ?_) (fun c10 => ?_)
    · have h11 := if_n h9 c10
      clear h9
      refine lv_aload_n C.1 C.2.1 dX7_unique_17 rfl (lv_at hl 0 rfl) ?_
      obtain ⟨r13, hr13, h14⟩ := bd_some h11
      clear h11
      refine x_callV_v_id (As := []) (rest := []) (q0 := 0) C Z (k_X7_layPresent l g n aM sMv sMp sMt sMs sMc sMr r13 hr13) gX7_unique_X7_layPresent yk_X7_layPresent ⟨Nat.le_of_ble_eq_true rfl, Nat.le_of_ble_eq_true rfl⟩ rfl rfl ⟨Nat.zero_le _, Nat.zero_le _⟩ hl.1 rfl (Nat.le_of_ble_eq_true rfl) rfl dX7_unique_18 (fun H locs Z => ?_)
      refine lv_aload_n C.1 C.2.1 dX7_unique_21 rfl (lv_at hl 0 rfl) ?_
      obtain ⟨r15, hr15, h16⟩ := bd_some h14
      clear h14
      refine x_callV_v_id (As := []) (rest := []) (q0 := 0) C Z (k_X7_sort l g n aM sMv sMp r13 sMs sMc sMr r15 hr15) gX7_unique_X7_sort yk_X7_sort ⟨Nat.le_of_ble_eq_true rfl, Nat.le_of_ble_eq_true rfl⟩ rfl rfl ⟨Nat.zero_le _, Nat.zero_le _⟩ hl.1 rfl (Nat.le_of_ble_eq_true rfl) rfl dX7_unique_22 (fun H locs Z => ?_)
      refine x_bipush C dX7_unique_25 (by decide) ?_
      refine lv_istore_n (lv' := [(2, .int (iI (-6))), (0, .ref (aM 0)), (1, .int (iI v1))]) C.1 C.2.1 dX7_unique_27 rfl hl (by decide) rfl (fun ls hl => ?_)
      refine x_bipush C dX7_unique_28 (by decide) ?_
      refine lv_istore_n (lv' := [(3, .int (iI 61)), (2, .int (iI (-6))), (0, .ref (aM 0)), (1, .int (iI v1))]) C.1 C.2.1 dX7_unique_30 rfl hl (by decide) rfl (fun ls hl => ?_)
      refine x_iconst C dX7_unique_31 ?_
      refine lv_istore (lv' := [(4, .int (iI 0)), (3, .int (iI 61)), (2, .int (iI (-6))), (0, .ref (aM 0)), (1, .int (iI v1))]) C.1 C.2.1 dX7_unique_32 hl (by decide) rfl (fun ls hl => ?_)
      obtain ⟨ex34, hl34, h157⟩ := bd_some h16
      clear h16
      have hK34 : ∀ (H : Heap) (locs : List Loc) (ls : Array Slot), xSt g A s (wM g aM sMv sMp r13 r15 sMc sMr) H locs → lv_has ls 6 [(0, .ref (aM 0)), (2, .int (iI ex34.1)), (3, .int (iI ex34.2))] → W p l e rmX7_unique s m args below meth c H locs 0 0 QQ (F0 m 114 ls []) := by
        intro H locs ls Z hl
        have h158 := h157
        clear h157
        refine lv_iload_n C.1 C.2.1 dX7_unique_114 rfl (lv_at hl 1 rfl) ?_
        have q159 := (ck_some h158).1
        have h160 := (ck_some h158).2
        clear h158
        refine x_if_ge (tgt := 123) C dX7_unique_115 (by decide) q159 (fun c161 => ?_) (fun c161 => ?_)
        · have h162 := if_n h160 c161
          clear h160
          refine lv_aload_n C.1 C.2.1 dX7_unique_123 rfl (lv_at hl 0 rfl) ?_
          refine lv_iload_n C.1 C.2.1 dX7_unique_124 rfl (lv_at hl 1 rfl) ?_
          refine lv_iload_n C.1 C.2.1 dX7_unique_125 rfl (lv_at hl 2 rfl) ?_
          obtain ⟨r164, hr164, h165⟩ := bd_some h162
          clear h162
          refine x_callV_i_id (As := [.int (iI ex34.1), .int (iI ex34.2)]) (rest := []) (q0 := 0) C Z (k_X7_write l g n aM sMv sMp r13 r15 sMc sMr ex34.1 ex34.2 r164 hr164) gX7_unique_X7_write yk_X7_write ⟨Nat.le_of_ble_eq_true rfl, Nat.le_of_ble_eq_true rfl⟩ rfl rfl ⟨Nat.zero_le _, Nat.zero_le _⟩ hl.1 rfl (Nat.le_of_ble_eq_true rfl) rfl dX7_unique_126 (fun H locs Z => ?_)
          have h166 := Option.some.inj h165
          subst h166
          exact hRet _ _ _ _ Z dX7_unique_129
        · have h163 := if_p h160 c161
          clear h160
          refine x_bipush C dX7_unique_118 (by decide) ?_
          refine lv_goto (tgt := 129) C.1 C.2.1 dX7_unique_120 (by decide) ?_
          have h167 := Option.some.inj h163
          subst h167
          exact hRet _ _ _ _ Z dX7_unique_129
      have hL34 : ∀ (k34 : Nat) (z34 : Int × Int × Int) (H : Heap) (locs : List Loc) (ls : Array Slot), lp (p_X7_unique_b34 n r13 r15 v1) k34 z34 = some ex34 → xSt g A s (wM g aM sMv sMp r13 r15 sMc sMr) H locs → lv_has ls 6 [(0, .ref (aM 0)), (1, .int (iI v1)), (2, .int (iI z34.1)), (3, .int (iI z34.2.1)), (4, .int (iI z34.2.2))] → W p l e rmX7_unique s m args below meth c H locs 0 0 QQ (F0 m 34 ls []) := by
        intro k34
        induction k34 with
        | zero => intro z34 H locs ls h; exact (lp_0 h).elim
        | succ k34 ih34 =>
          intro z34 H locs ls h Z hl
          obtain ⟨x34, hb34, hx34⟩ := lp_s h
          clear h
          unfold p_X7_unique_b34 at hb34
          refine lv_iload C.1 C.2.1 dX7_unique_34 (lv_at hl 4 rfl) ?_
          refine lv_aload_n C.1 C.2.1 dX7_unique_36 rfl (lv_at hl 0 rfl) ?_
          refine x_get C Z 0 rfl rfl i_X7_X7_unique (k := 12) (by decide) (List.mem_of_getElem? (i := 1) rfl) rfl dX7_unique_37 ?_
          refine x_iconst C dX7_unique_40 ?_
          refine x_iald C Z 10 rfl (by decide) (by decide) dX7_unique_41 ?_
          have q89 := (ck_some hb34).1
          have h90 := (ck_some hb34).2
          clear hb34
          have q91 := (ck_some h90).1
          have h92 := (ck_some h90).2
          clear h90
          refine x_icmp_ge (tgt := 114) C dX7_unique_42 (by decide) q89 q91 (fun c93 => ?_) (fun c93 => ?_)
          · have h94 := if_n h92 c93
            clear h92
            cases h94
            have h96 := lp_R hx34
            subst h96
            exact hK34 _ _ _ Z (lv_sub hl [0, 2, 3] rfl)
          · have h95 := if_p h92 c93
            clear h92
            refine lv_aload_n C.1 C.2.1 dX7_unique_45 rfl (lv_at hl 0 rfl) ?_
            refine x_get C Z 0 rfl rfl i_X7_X7_unique (k := 16) (by decide) (List.mem_of_getElem? (i := 2) rfl) rfl dX7_unique_46 ?_
            refine lv_iload C.1 C.2.1 dX7_unique_49 (lv_at hl 4 rfl) ?_
            have q97 := (ix_some h95).1
            have h98 := (ix_some h95).2
            clear h95
            refine x_iald C Z 14 rfl (by decide) q97 dX7_unique_51 ?_
            refine x_iconst C dX7_unique_52 ?_
            refine x_iadd C dX7_unique_53 ?_
            refine lv_istore (lv' := [(5, .int (iI ((r15.near z34.2.2) + 1))), (0, .ref (aM 0)), (1, .int (iI v1)), (2, .int (iI z34.1)), (3, .int (iI z34.2.1)), (4, .int (iI z34.2.2))]) C.1 C.2.1 dX7_unique_54 hl (by decide) rfl (fun ls hl => ?_)
            obtain ⟨ex56, hl56, h155⟩ := bd_some h98
            clear h98
            have hK56 : ∀ (H : Heap) (locs : List Loc) (ls : Array Slot), xSt g A s (wM g aM sMv sMp r13 r15 sMc sMr) H locs → lv_has ls 6 [(0, .ref (aM 0)), (1, .int (iI v1)), (2, .int (iI ex56.1)), (3, .int (iI ex56.2)), (4, .int (iI z34.2.2))] → W p l e rmX7_unique s m args below meth c H locs 0 0 QQ (F0 m 108 ls []) := by
              intro H locs ls Z hl
              have h156 := h155
              clear h155
              refine x_iinc (lv' := [(4, .int (iI (z34.2.2 + 1))), (0, .ref (aM 0)), (1, .int (iI v1)), (2, .int (iI ex56.1)), (3, .int (iI ex56.2))]) C dX7_unique_108 hl (k := 4) rfl (by decide) rfl (fun ls hl => ?_)
              refine lv_goto (tgt := 34) C.1 C.2.1 dX7_unique_111 (by decide) ?_
              cases h156
              exact ih34 (ex56.1, ex56.2, z34.2.2 + 1) _ _ _ (lp_L2 hx34) Z (lv_sub hl [1, 2, 3, 4, 0] rfl)
            have hL56 : ∀ (k56 : Nat) (z56 : Int × Int × Int) (H : Heap) (locs : List Loc) (ls : Array Slot), lp (p_X7_unique_b56 n r13 r15 v1 z34.2.2) k56 z56 = some ex56 → xSt g A s (wM g aM sMv sMp r13 r15 sMc sMr) H locs → lv_has ls 6 [(0, .ref (aM 0)), (1, .int (iI v1)), (2, .int (iI z56.1)), (3, .int (iI z56.2.1)), (4, .int (iI z34.2.2)), (5, .int (iI z56.2.2))] → W p l e rmX7_unique s m args below meth c H locs 0 0 QQ (F0 m 56 ls []) := by
              intro k56
              induction k56 with
              | zero => intro z56 H locs ls h; exact (lp_0 h).elim
              | succ k56 ih56 =>
                intro z56 H locs ls h Z hl
                obtain ⟨x56, hb56, hx56⟩ := lp_s h
                clear h
                unfold p_X7_unique_b56 at hb56
                refine lv_iload C.1 C.2.1 dX7_unique_56 (lv_at hl 5 rfl) ?_
                refine lv_aload_n C.1 C.2.1 dX7_unique_58 rfl (lv_at hl 0 rfl) ?_
                refine x_iconst C dX7_unique_59 ?_
                refine lv_aload_n C.1 C.2.1 dX7_unique_60 rfl (lv_at hl 0 rfl) ?_
                refine x_get C Z 0 rfl rfl i_X7_X7_unique (k := 15) (by decide) (List.mem_of_getElem? (i := 3) rfl) rfl dX7_unique_61 ?_
                refine lv_iload C.1 C.2.1 dX7_unique_64 (lv_at hl 4 rfl) ?_
                have q127 := (ix_some hb56).1
                have h128 := (ix_some hb56).2
                clear hb56
                refine x_iald C Z 13 rfl (by decide) q127 dX7_unique_66 ?_
                obtain ⟨r129, hr129, h130⟩ := bd_some h128
                clear h128
                refine x_callV_i_id (As := [.int (iI 0), .int (iI (r15.sorted z34.2.2))]) (rest := [.int (iI z56.2.2)]) (q0 := 0) C Z (k_X7_rest l g n aM sMv sMp r13 r15 sMc sMr 0 (r15.sorted z34.2.2) r129 hr129) gX7_unique_X7_rest yk_X7_rest ⟨Nat.le_of_ble_eq_true rfl, Nat.le_of_ble_eq_true rfl⟩ rfl rfl ⟨Nat.zero_le _, Nat.zero_le _⟩ hl.1 rfl (Nat.le_of_ble_eq_true rfl) rfl dX7_unique_67 (fun H locs Z => ?_)
                have q131 := (ck_some h130).1
                have h132 := (ck_some h130).2
                clear h130
                have q133 := (ck_some h132).1
                have h134 := (ck_some h132).2
                clear h132
                refine x_icmp_gt (tgt := 108) C dX7_unique_70 (by decide) q131 q133 (fun c135 => ?_) (fun c135 => ?_)
                · have h136 := if_p h134 c135
                  clear h134
                  cases h136
                  have h138 := lp_R hx56
                  subst h138
                  exact hK56 _ _ _ Z (lv_sub hl [0, 1, 2, 3, 4] rfl)
                · have h137 := if_n h134 c135
                  clear h134
                  refine lv_iload C.1 C.2.1 dX7_unique_73 (lv_at hl 5 rfl) ?_
                  refine lv_iload_n C.1 C.2.1 dX7_unique_75 rfl (lv_at hl 3 rfl) ?_
                  have q139 := (ck_some h137).1
                  have h140 := (ck_some h137).2
                  clear h137
                  refine x_icmp_ge (tgt := 102) C dX7_unique_76 (by decide) q131 q139 (fun c141 => ?_) (fun c141 => ?_)
                  · have h142 := if_n h140 c141
                    clear h140
                    refine x_iinc (lv' := [(5, .int (iI (z56.2.2 + 1))), (0, .ref (aM 0)), (1, .int (iI v1)), (2, .int (iI z56.1)), (3, .int (iI z56.2.1)), (4, .int (iI z34.2.2))]) C dX7_unique_102 hl (k := 5) rfl (by decide) rfl (fun ls hl => ?_)
                    refine lv_goto (tgt := 56) C.1 C.2.1 dX7_unique_105 (by decide) ?_
                    cases h142
                    exact ih56 (z56.1, z56.2.1, z56.2.2 + 1) _ _ _ (lp_L2 hx56) Z (lv_sub hl [1, 2, 3, 4, 5, 0] rfl)
                  · have h143 := if_p h140 c141
                    clear h140
                    refine lv_aload_n C.1 C.2.1 dX7_unique_79 rfl (lv_at hl 0 rfl) ?_
                    refine lv_iload C.1 C.2.1 dX7_unique_80 (lv_at hl 4 rfl) ?_
                    refine lv_iload C.1 C.2.1 dX7_unique_82 (lv_at hl 5 rfl) ?_
                    obtain ⟨r144, hr144, h145⟩ := bd_some h143
                    clear h143
                    refine x_callV_i_id (As := [.int (iI z34.2.2), .int (iI z56.2.2)]) (rest := []) (q0 := 0) C Z (k_X7_wordsOf l g n aM sMv sMp r13 r15 sMc sMr z34.2.2 z56.2.2 r144 hr144) gX7_unique_X7_wordsOf yk_X7_wordsOf ⟨Nat.le_of_ble_eq_true rfl, Nat.le_of_ble_eq_true rfl⟩ rfl rfl ⟨Nat.zero_le _, Nat.zero_le _⟩ hl.1 rfl (Nat.le_of_ble_eq_true rfl) rfl dX7_unique_84 (fun H locs Z => ?_)
                    refine lv_iload_n C.1 C.2.1 dX7_unique_87 rfl (lv_at hl 1 rfl) ?_
                    have q146 := (ck_some h145).1
                    have h147 := (ck_some h145).2
                    clear h145
                    have q148 := (ck_some h147).1
                    have h149 := (ck_some h147).2
                    clear h147
                    refine x_icmp_ne (tgt := 102) C dX7_unique_88 (by decide) q146 q148 (fun c150 => ?_) (fun c150 => ?_)
                    · have h151 := if_n h149 c150
                      clear h149
                      refine x_iinc (lv' := [(5, .int (iI (z56.2.2 + 1))), (0, .ref (aM 0)), (1, .int (iI v1)), (2, .int (iI z56.1)), (3, .int (iI z56.2.1)), (4, .int (iI z34.2.2))]) C dX7_unique_102 hl (k := 5) rfl (by decide) rfl (fun ls hl => ?_)
                      refine lv_goto (tgt := 56) C.1 C.2.1 dX7_unique_105 (by decide) ?_
                      cases h151
                      exact ih56 (z56.1, z56.2.1, z56.2.2 + 1) _ _ _ (lp_L2 hx56) Z (lv_sub hl [1, 2, 3, 4, 5, 0] rfl)
                    · have h152 := if_p h149 c150
                      clear h149
                      refine lv_aload_n C.1 C.2.1 dX7_unique_91 rfl (lv_at hl 0 rfl) ?_
                      refine x_get C Z 0 rfl rfl i_X7_X7_unique (k := 15) (by decide) (List.mem_of_getElem? (i := 3) rfl) rfl dX7_unique_92 ?_
                      refine lv_iload C.1 C.2.1 dX7_unique_95 (lv_at hl 4 rfl) ?_
                      refine x_iald C Z 13 rfl (by decide) q127 dX7_unique_97 ?_
                      refine lv_istore_n (lv' := [(2, .int (iI (r15.sorted z34.2.2))), (0, .ref (aM 0)), (1, .int (iI v1)), (3, .int (iI z56.2.1)), (4, .int (iI z34.2.2)), (5, .int (iI z56.2.2))]) C.1 C.2.1 dX7_unique_98 rfl hl (by decide) rfl (fun ls hl => ?_)
                      refine lv_iload C.1 C.2.1 dX7_unique_99 (lv_at hl 5 rfl) ?_
                      refine lv_istore_n (lv' := [(3, .int (iI z56.2.2)), (2, .int (iI (r15.sorted z34.2.2))), (0, .ref (aM 0)), (1, .int (iI v1)), (4, .int (iI z34.2.2)), (5, .int (iI z56.2.2))]) C.1 C.2.1 dX7_unique_101 rfl hl (by decide) rfl (fun ls hl => ?_)
                      refine x_iinc (lv' := [(5, .int (iI (z56.2.2 + 1))), (3, .int (iI z56.2.2)), (2, .int (iI (r15.sorted z34.2.2))), (0, .ref (aM 0)), (1, .int (iI v1)), (4, .int (iI z34.2.2))]) C dX7_unique_102 hl (k := 5) rfl (by decide) rfl (fun ls hl => ?_)
                      refine lv_goto (tgt := 56) C.1 C.2.1 dX7_unique_105 (by decide) ?_
                      cases h152
                      exact ih56 (r15.sorted z34.2.2, z56.2.2, z56.2.2 + 1) _ _ _ (lp_L2 hx56) Z (lv_sub hl [3, 4, 2, 1, 5, 0] rfl)
            exact hL56 n (z34.1, z34.2.1, (r15.near z34.2.2) + 1) _ _ _ hl56 Z (lv_sub hl [1, 2, 3, 4, 5, 0] rfl)
      exact hL34 n ((-6), 61, 0) _ _ _ hl34 Z (lv_sub hl [3, 4, 2, 1, 0] rfl)
    · have h12 := if_p h9 c10
      clear h9
      refine x_bipush C dX7_unique_14 (by decide) ?_
      have h168 := Option.some.inj h12
      subst h168
      exact hRet _ _ _ _ Z dX7_unique_16
  · have h7 := if_p h4 c5
    clear h4
    refine x_iconst C dX7_unique_8 ?_
    have h169 := Option.some.inj h7
    subst h169
    exact hRet _ _ _ _ Z dX7_unique_9
