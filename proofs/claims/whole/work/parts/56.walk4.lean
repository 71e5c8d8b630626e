abbrev rmX7_isTriedFactor : Room := { frames := 1, cells := 0, slots := 0, locals := 22 }
theorem yk_X7_isTriedFactor : xY yX7_isTriedFactor RX7 cX7_isTriedFactor 5 (some .boolean) wsX7_isTriedFactor rmX7_isTriedFactor 1 := ⟨⟨_, rfl⟩, by decide +kernel, rfl, rfl⟩
theorem i_X7_X7_isTriedFactor : ∀ w ∈ u_ws RX7 TX7 23, w ∈ wsX7_isTriedFactor := fun _ h => List.mem_cons_of_mem _ (List.mem_append_right _ h)
set_option maxHeartbeats 4000000 in
set_option maxRecDepth 100000 in
theorem k_X7_isTriedFactor (l : Launch) (g : xG) (n : Nat) (aM : Nat → Nat) (sMv : MvS) (sMp : MpS) (sMt : MtS) (sMs : MsS) (sMc : McS) (sMr : MrS) (v1 : Int) (r : Int) (hf : p_X7_isTriedFactor n sMt sMr v1 = some r) : xMi l yX7_isTriedFactor wsX7_isTriedFactor rmX7_isTriedFactor g [.ref (aM 0), .int (iI v1)] (wM g aM sMv sMp sMt sMs sMc sMr) (wM g aM sMv sMp sMt sMs sMc sMr) r := by
  refine x_ofW_z (own := RX7) (by decide) rfl rfl (Nat.le_of_ble_eq_true rfl) ?_
  intro p e s m args below meth c ls A QQ C hRet Z hl
  have hl : lv_has ls 5 [(0, .ref (aM 0)), (1, .int (iI v1))] := hl
  unfold p_X7_isTriedFactor at hf
  refine x_iconst C dX7_isTriedFactor_0 ?_
  refine lv_istore_n (lv' := [(2, .int (iI 0)), (0, .ref (aM 0)), (1, .int (iI v1))]) C.1 C.2.1 dX7_isTriedFactor_1 rfl hl (by decide) rfl (fun ls hl => ?_)
  obtain ⟨ex2, hl2, h158⟩ := bd_some hf
  clear hf
  have hK2 : ∀ (e2 : Unit) (H : Heap) (locs : List Loc) (ls : Array Slot), ex2 = .inr e2 → xSt g A s (wM g aM sMv sMp sMt sMs sMc sMr) H locs → lv_has ls 5 [] → W p l e rmX7_isTriedFactor s m args below meth c H locs 0 0 QQ (F0 m 83 ls []) := by
    intro e2 H locs ls he Z hl
    subst he
    have h159 := (Sum.elim_inr ..).symm.trans h158
    clear h158
    refine x_iconst C dX7_isTriedFactor_83 ?_
    have h160 := Option.some.inj h159
    subst h160
    exact hRet _ _ _ _ (x_bool (Or.inl rfl)) Z dX7_isTriedFactor_84
  have hL2 : ∀ (k2 : Nat) (z2 : Int) (H : Heap) (locs : List Loc) (ls : Array Slot), lp (p_X7_isTriedFactor_b2 n sMt sMr v1) k2 z2 = some ex2 → xSt g A s (wM g aM sMv sMp sMt sMs sMc sMr) H locs → lv_has ls 5 [(0, .ref (aM 0)), (1, .int (iI v1)), (2, .int (iI z2))] → W p l e rmX7_isTriedFactor s m args below meth c H locs 0 0 QQ (F0 m 2 ls []) := by
    intro k2
    induction k2 with
    | zero => intro z2 H locs ls h; exact (lp_0 h).elim
    | succ k2 ih2 =>
      intro z2 H locs ls h Z hl
      obtain ⟨x2, hb2, hx2⟩ := lp_s h
      clear h
      unfold p_X7_isTriedFactor_b2 at hb2
      have hJ27 : ∀ (v2_27 : Int) (t0_27 : Int) (H : Heap) (locs : List Loc) (ls : Array Slot), p_X7_isTriedFactor_j27 n sMt sMr v1 v2_27 t0_27 = some x2 → xSt g A s (wM g aM sMv sMp sMt sMs sMc sMr) H locs → lv_has ls 5 [(0, .ref (aM 0)), (1, .int (iI v1)), (2, .int (iI v2_27))] → W p l e rmX7_isTriedFactor s m args below meth c H locs 0 0 QQ (F0 m 27 ls [.int (iI t0_27)]) := by
        intro v2_27 t0_27 H locs ls hj27 Z hl
        unfold p_X7_isTriedFactor_j27 at hj27
        refine lv_istore_n (lv' := [(3, .int (iI t0_27)), (0, .ref (aM 0)), (1, .int (iI v1)), (2, .int (iI v2_27))]) C.1 C.2.1 dX7_isTriedFactor_27 rfl hl (by decide) rfl (fun ls hl => ?_)
        refine x_iconst C dX7_isTriedFactor_28 ?_
        refine lv_istore (lv' := [(4, .int (iI 0)), (3, .int (iI t0_27)), (0, .ref (aM 0)), (1, .int (iI v1)), (2, .int (iI v2_27))]) C.1 C.2.1 dX7_isTriedFactor_29 hl (by decide) rfl (fun ls hl => ?_)
        obtain ⟨ex31, hl31, h130⟩ := bd_some hj27
        clear hj27
        have hK31 : ∀ (H : Heap) (locs : List Loc) (ls : Array Slot), xSt g A s (wM g aM sMv sMp sMt sMs sMc sMr) H locs → lv_has ls 5 [(0, .ref (aM 0)), (1, .int (iI v1)), (2, .int (iI v2_27)), (3, .int (iI ex31))] → W p l e rmX7_isTriedFactor s m args below meth c H locs 0 0 QQ (F0 m 71 ls []) := by
          intro H locs ls Z hl
          have h131 := h130
          clear h130
          refine lv_iload_n C.1 C.2.1 dX7_isTriedFactor_71 rfl (lv_at hl 3 rfl) ?_
          have q132 := (ck_some h131).1
          have h133 := (ck_some h131).2
          clear h131
          refine x_if_eq (tgt := 77) C dX7_isTriedFactor_72 (by decide) q132 (fun c134 => ?_) (fun c134 => ?_)
          · have h135 := if_p h133 c134
            clear h133
            refine x_iinc (lv' := [(2, .int (iI (v2_27 + 1))), (0, .ref (aM 0)), (1, .int (iI v1)), (3, .int (iI ex31))]) C dX7_isTriedFactor_77 hl (k := 2) rfl (by decide) rfl (fun ls hl => ?_)
            refine lv_goto (tgt := 2) C.1 C.2.1 dX7_isTriedFactor_80 (by decide) ?_
            cases h135
            exact ih2 (v2_27 + 1) _ _ _ (lp_L2 hx2) Z (lv_sub hl [1, 2, 0] rfl)
          · have h136 := if_n h133 c134
            clear h133
            refine x_iconst C dX7_isTriedFactor_75 ?_
            cases h136
            have h137 := lp_R hx2
            subst h137
            have h138 := (Sum.elim_inl ..).symm.trans h158
            have h139 := Option.some.inj h138
            subst h139
            exact hRet _ _ _ _ (x_bool (Or.inr rfl)) Z dX7_isTriedFactor_76
        have hL31 : ∀ (k31 : Nat) (z31 : Int × Int) (H : Heap) (locs : List Loc) (ls : Array Slot), lp (p_X7_isTriedFactor_b31 n sMt sMr v1 v2_27) k31 z31 = some ex31 → xSt g A s (wM g aM sMv sMp sMt sMs sMc sMr) H locs → lv_has ls 5 [(0, .ref (aM 0)), (1, .int (iI v1)), (2, .int (iI v2_27)), (3, .int (iI z31.1)), (4, .int (iI z31.2))] → W p l e rmX7_isTriedFactor s m args below meth c H locs 0 0 QQ (F0 m 31 ls []) := by
          intro k31
          induction k31 with
          | zero => intro z31 H locs ls h; exact (lp_0 h).elim
          | succ k31 ih31 =>
            intro z31 H locs ls h Z hl
            obtain ⟨x31, hb31, hx31⟩ := lp_s h
            clear h
            unfold p_X7_isTriedFactor_b31 at hb31
            refine lv_iload C.1 C.2.1 dX7_isTriedFactor_31 (lv_at hl 4 rfl) ?_
            refine lv_iload_n C.1 C.2.1 dX7_isTriedFactor_33 rfl (lv_at hl 1 rfl) ?_
            have q105 := (ck_some hb31).1
            have h106 := (ck_some hb31).2
            clear hb31
            have q107 := (ck_some h106).1
            have h108 := (ck_some h106).2
            clear h106
            refine x_icmp_ge (tgt := 71) C dX7_isTriedFactor_34 (by decide) q105 q107 (fun c109 => ?_) (fun c109 => ?_)
            · have h110 := if_n h108 c109
              clear h108
              cases h110
              have h112 := lp_R hx31
              subst h112
              exact hK31 _ _ _ Z (lv_sub hl [0, 1, 2, 3] rfl)
            · have h111 := if_p h108 c109
              clear h108
              refine lv_iload_n C.1 C.2.1 dX7_isTriedFactor_37 rfl (lv_at hl 3 rfl) ?_
              have q113 := (ck_some h111).1
              have h114 := (ck_some h111).2
              clear h111
              refine x_if_eq (tgt := 71) C dX7_isTriedFactor_38 (by decide) q113 (fun c115 => ?_) (fun c115 => ?_)
              · have h116 := if_p h114 c115
                clear h114
                cases h116
                have h118 := lp_R hx31
                subst h118
                exact hK31 _ _ _ Z (lv_sub hl [0, 1, 2, 3] rfl)
              · have h117 := if_n h114 c115
                clear h114
                refine lv_aload_n C.1 C.2.1 dX7_isTriedFactor_41 rfl (lv_at hl 0 rfl) ?_
                refine lv_iload_n C.1 C.2.1 dX7_isTriedFactor_42 rfl (lv_at hl 2 rfl) ?_
                refine lv_iload C.1 C.2.1 dX7_isTriedFactor_43 (lv_at hl 4 rfl) ?_
                refine x_iadd C dX7_isTriedFactor_45 ?_
                obtain ⟨r119, hr119, h120⟩ := bd_some h117
                clear h117
                refine x_callV_i_id (As := [.int (iI (v2_27 + z31.2))]) (rest := []) (q0 := 0) C Z (k_X7_letterAt l g n aM sMv sMp sMt sMs sMc sMr (v2_27 + z31.2) r119 hr119) gX7_isTriedFactor_X7_letterAt yk_X7_letterAt ⟨Nat.le_of_ble_eq_true rfl, Nat.le_of_ble_eq_true rfl⟩ rfl rfl ⟨Nat.zero_le _, Nat.zero_le _⟩ hl.1 rfl (Nat.le_of_ble_eq_true rfl) rfl dX7_isTriedFactor_46 (fun H locs Z => ?_)
                refine lv_aload_n C.1 C.2.1 dX7_isTriedFactor_49 rfl (lv_at hl 0 rfl) ?_
                refine x_get C Z 0 rfl rfl i_X7_X7_isTriedFactor (k := 22) (by decide) (List.mem_of_getElem? (i := 2) rfl) rfl dX7_isTriedFactor_50 ?_
                refine lv_iload C.1 C.2.1 dX7_isTriedFactor_53 (lv_at hl 4 rfl) ?_
                have q121 := (ix_some h120).1
                have h122 := (ix_some h120).2
                clear h120
                refine x_iald C Z 19 rfl (by decide) q121 dX7_isTriedFactor_55 ?_
                have q123 := (ck_some h122).1
                have h124 := (ck_some h122).2
                clear h122
                have q125 := (ck_some h124).1
                have h126 := (ck_some h124).2
                clear h124
                refine x_icmp_ne (tgt := 63) C dX7_isTriedFactor_56 (by decide) q123 q125 (fun c127 => ?_) (fun c127 => ?_)
                · have h128 := if_n h126 c127
                  clear h126
                  refine x_iconst C dX7_isTriedFactor_63 ?_
                  refine lv_istore_n (lv' := [(3, .int (iI 0)), (0, .ref (aM 0)), (1, .int (iI v1)), (2, .int (iI v2_27)), (4, .int (iI z31.2))]) C.1 C.2.1 dX7_isTriedFactor_64 rfl hl (by decide) rfl (fun ls hl => ?_)
                  refine x_iinc (lv' := [(4, .int (iI (z31.2 + 1))), (3, .int (iI 0)), (0, .ref (aM 0)), (1, .int (iI v1)), (2, .int (iI v2_27))]) C dX7_isTriedFactor_65 hl (k := 4) rfl (by decide) rfl (fun ls hl => ?_)
                  refine lv_goto (tgt := 31) C.1 C.2.1 dX7_isTriedFactor_68 (by decide) ?_
                  cases h128
                  exact ih31 (0, z31.2 + 1) _ _ _ (lp_L2 hx31) Z (lv_sub hl [2, 3, 4, 1, 0] rfl)
                · have h129 := if_p h126 c127
                  clear h126
                  refine x_iconst C dX7_isTriedFactor_59 ?_
                  refine lv_goto (tgt := 64) C.1 C.2.1 dX7_isTriedFactor_60 (by decide) ?_
                  refine lv_istore_n (lv' := [(3, .int (iI 1)), (0, .ref (aM 0)), (1, .int (iI v1)), (2, .int (iI v2_27)), (4, .int (iI z31.2))]) C.1 C.2.1 dX7_isTriedFactor_64 rfl hl (by decide) rfl (fun ls hl => ?_)
                  refine x_iinc (lv' := [(4, .int (iI (z31.2 + 1))), (3, .int (iI 1)), (0, .ref (aM 0)), (1, .int (iI v1)), (2, .int (iI v2_27))]) C dX7_isTriedFactor_65 hl (k := 4) rfl (by decide) rfl (fun ls hl => ?_)
                  refine lv_goto (tgt := 31) C.1 C.2.1 dX7_isTriedFactor_68 (by decide) ?_
                  cases h129
                  exact ih31 (1, z31.2 + 1) _ _ _ (lp_L2 hx31) Z (lv_sub hl [2, 3, 4, 1, 0] rfl)
        exact hL31 n (t0_27, 0) _ _ _ hl31 Z (lv_sub hl [2, 3, 4, 1, 0] rfl)
      refine lv_iload_n C.1 C.2.1 dX7_isTriedFactor_2 rfl (lv_at hl 2 rfl) ?_
      refine lv_aload_n C.1 C.2.1 dX7_isTriedFactor_3 rfl (lv_at hl 0 rfl) ?_
      refine x_get C Z 0 rfl rfl i_X7_X7_isTriedFactor (k := 12) (by decide) (List.mem_of_getElem? (i := 1) rfl) rfl dX7_isTriedFactor_4 ?_
      refine x_iconst C dX7_isTriedFactor_7 ?_
      refine x_iald C Z 10 rfl (by decide) (by decide) dX7_isTriedFactor_8 ?_
      have q142 := (ck_some hb2).1
      have h143 := (ck_some hb2).2
      clear hb2
      have q144 := (ck_some h143).1
      have h145 := (ck_some h143).2
      clear h143
      refine x_icmp_ge (tgt := 83) C dX7_isTriedFactor_9 (by decide) q142 q144 (fun c146 => ?_) (fun c146 => ?_)
      · have h147 := if_n h145 c146
        clear h145
        cases h147
        exact hK2 () _ _ _ (lp_R hx2).symm Z (lv_sub hl [] rfl)
      · have h148 := if_p h145 c146
        clear h145
        refine lv_aload_n C.1 C.2.1 dX7_isTriedFactor_12 rfl (lv_at hl 0 rfl) ?_
        refine x_iconst C dX7_isTriedFactor_13 ?_
        refine lv_iload_n C.1 C.2.1 dX7_isTriedFactor_14 rfl (lv_at hl 2 rfl) ?_
        obtain ⟨r149, hr149, h150⟩ := bd_some h148
        clear h148
        refine x_callV_i_id (As := [.int (iI 0), .int (iI z2)]) (rest := []) (q0 := 0) C Z (k_X7_rest l g n aM sMv sMp sMt sMs sMc sMr 0 z2 r149 hr149) gX7_isTriedFactor_X7_rest yk_X7_rest ⟨Nat.le_of_ble_eq_true rfl, Nat.le_of_ble_eq_true rfl⟩ rfl rfl ⟨Nat.zero_le _, Nat.zero_le _⟩ hl.1 rfl (Nat.le_of_ble_eq_true rfl) rfl dX7_isTriedFactor_15 (fun H locs Z => ?_)
        refine lv_iload_n C.1 C.2.1 dX7_isTriedFactor_18 rfl (lv_at hl 1 rfl) ?_
        have q151 := (ck_some h150).1
        have h152 := (ck_some h150).2
        clear h150
        have q153 := (ck_some h152).1
        have h154 := (ck_some h152).2
        clear h152
        refine x_icmp_lt (tgt := 26) C dX7_isTriedFactor_19 (by decide) q151 q153 (fun c155 => ?_) (fun c155 => ?_)
        · have h156 := if_p h154 c155
          clear h154
          refine x_iconst C dX7_isTriedFactor_26 ?_
          exact hJ27 z2 0 _ _ _ h156 Z (lv_sub hl [0, 1, 2] rfl)
        · have h157 := if_n h154 c155
          clear h154
          refine x_iconst C dX7_isTriedFactor_22 ?_
          refine lv_goto (tgt := 27) C.1 C.2.1 dX7_isTriedFactor_23 (by decide) ?_
          exact hJ27 z2 1 _ _ _ h157 Z (lv_sub hl [0, 1, 2] rfl)
  exact hL2 n 0 _ _ _ hl2 Z (lv_sub hl [1, 2, 0] rfl)
abbrev rmX7_nextTried : Room := { frames := 0, cells := 0, slots := 0, locals := 0 }
theorem yk_X7_nextTried : xY yX7_nextTried RX7 cX7_nextTried 4 (some .boolean) wsX7_nextTried rmX7_nextTried 2 := ⟨⟨_, rfl⟩, by decide +kernel, rfl, rfl⟩
theorem i_X7_X7_nextTried : ∀ w ∈ u_ws RX7 TX7 23, w ∈ wsX7_nextTried := fun _ h => List.mem_cons_of_mem _ (List.mem_append_right _ h)
set_option maxHeartbeats 4000000 in
set_option maxRecDepth 100000 in
theorem k_X7_nextTried (l : Launch) (g : xG) (n : Nat) (aM : Nat → Nat) (sMv : MvS) (sMp : MpS) (sMt : MtS) (sMs : MsS) (sMc : McS) (sMr : MrS) (v1 : Int) (v2 : Int) (r : Int × MrS) (hf : p_X7_nextTried n sMr v1 v2 = some r) : xMi l yX7_nextTried wsX7_nextTried rmX7_nextTried g [.ref (aM 0), .int (iI v1), .int (iI v2)] (wM g aM sMv sMp sMt sMs sMc sMr) (wM g aM sMv sMp sMt sMs sMc r.2) r.1 := by
  refine x_ofW_z (own := RX7) (by decide) rfl rfl (Nat.le_of_ble_eq_true rfl) ?_
  intro p e s m args below meth c ls A QQ C hRet Z hl
  have hl : lv_has ls 4 [(0, .ref (aM 0)), (1, .int (iI v1)), (2, .int (iI v2))] := hl
  unfold p_X7_nextTried at hf
  refine lv_iload_n C.1 C.2.1 dX7_nextTried_0 rfl (lv_at hl 1 rfl) ?_
  refine x_iconst C dX7_nextTried_1 ?_
  refine x_isub C dX7_nextTried_2 ?_
  refine lv_istore_n (lv' := [(3, .int (iI (v1 - 1))), (0, .ref (aM 0)), (1, .int (iI v1)), (2, .int (iI v2))]) C.1 C.2.1 dX7_nextTried_3 rfl hl (by decide) rfl (fun ls hl => ?_)
  obtain ⟨ex4, hl4, h33⟩ := bd_some hf
  clear hf
  have hK4 : ∀ (H : Heap) (locs : List Loc) (ls : Array Slot), xSt g A s (wM g aM sMv sMp sMt sMs sMc ex4.2) H locs → lv_has ls 4 [(0, .ref (aM 0)), (3, .int (iI ex4.1))] → W p l e rmX7_nextTried s m args below meth c H locs 0 0 QQ (F0 m 33 ls []) := by
    intro H locs ls Z hl
    have h34 := h33
    clear h33
    refine lv_iload_n C.1 C.2.1 dX7_nextTried_33 rfl (lv_at hl 1 rfl) ?_
    have q35 := (ck_some h34).1
    have h36 := (ck_some h34).2
    clear h34
    refine x_if_ge (tgt := 39) C dX7_nextTried_34 (by decide) q35 (fun c37 => ?_) (fun c37 => ?_)
    · have h38 := if_n h36 c37
      clear h36
      refine lv_aload_n C.1 C.2.1 dX7_nextTried_39 rfl (lv_at hl 0 rfl) ?_
      refine x_get C Z 0 rfl rfl i_X7_X7_nextTried (k := 22) (by decide) (List.mem_of_getElem? (i := 1) rfl) rfl dX7_nextTried_40 ?_
      refine lv_iload_n C.1 C.2.1 dX7_nextTried_43 rfl (lv_at hl 1 rfl) ?_
      refine lv_dup2_11 C.1 C.2.1 dX7_nextTried_44 rfl rfl ?_
      have q40 := (ix_some h38).1
      have h41 := (ix_some h38).2
      clear h38
      refine x_iald C Z 19 rfl (by decide) q40 dX7_nextTried_45 ?_
      refine x_iconst C dX7_nextTried_46 ?_
      refine x_iadd C dX7_nextTried_47 ?_
      refine x_iast (ws2 := wM g aM sMv sMp sMt sMs sMc (up ex4.2 ex4.1 ((ex4.2 ex4.1) + 1))) C Z 19 rfl (by decide) q40 dX7_nextTried_48 rfl (fun H locs Z => ?_)
      refine x_iconst C dX7_nextTried_49 ?_
      have h42 := Option.some.inj h41
      subst h42
      exact hRet _ _ _ _ (x_bool (Or.inr rfl)) Z dX7_nextTried_50
    · have h39 := if_p h36 c37
      clear h36
      refine x_iconst C dX7_nextTried_37 ?_
      have h43 := Option.some.inj h39
      subst h43
      exact hRet _ _ _ _ (x_bool (Or.inl rfl)) Z dX7_nextTried_38
  have hL4 : ∀ (k4 : Nat) (z4 : Int × Row) (H : Heap) (locs : List Loc) (ls : Array Slot), lp (p_X7_nextTried_b4 n v2) k4 z4 = some ex4 → xSt g A s (wM g aM sMv sMp sMt sMs sMc z4.2) H locs → lv_has ls 4 [(0, .ref (aM 0)), (2, .int (iI v2)), (3, .int (iI z4.1))] → W p l e rmX7_nextTried s m args below meth c H locs 0 0 QQ (F0 m 4 ls []) := by
    intro k4
    induction k4 with
    | zero => intro z4 H locs ls h; exact (lp_0 h).elim
    | succ k4 ih4 =>
      intro z4 H locs ls h Z hl
      obtain ⟨x4, hb4, hx4⟩ := lp_s h
      clear h
      unfold p_X7_nextTried_b4 at hb4
      refine lv_iload_n C.1 C.2.1 dX7_nextTried_4 rfl (lv_at hl 2 rfl) ?_
      have q17 := (ck_some hb4).1
      have h18 := (ck_some hb4).2
      clear hb4
      refine x_if_lt (tgt := 33) C dX7_nextTried_5 (by decide) q17 (fun c19 => ?_) (fun c19 => ?_)
      · have h20 := if_p h18 c19
        clear h18
        cases h20
        have h22 := lp_R hx4
        subst h22
        exact hK4 _ _ _ Z (lv_sub hl [0, 2] rfl)
      · have h21 := if_n h18 c19
        clear h18
        refine lv_aload_n C.1 C.2.1 dX7_nextTried_8 rfl (lv_at hl 0 rfl) ?_
        refine x_get C Z 0 rfl rfl i_X7_X7_nextTried (k := 22) (by decide) (List.mem_of_getElem? (i := 1) rfl) rfl dX7_nextTried_9 ?_
        refine lv_iload_n C.1 C.2.1 dX7_nextTried_12 rfl (lv_at hl 2 rfl) ?_
        have q23 := (ix_some h21).1
        have h24 := (ix_some h21).2
        clear h21
        refine x_iald C Z 19 rfl (by decide) q23 dX7_nextTried_13 ?_
        refine lv_iload_n C.1 C.2.1 dX7_nextTried_14 rfl (lv_at hl 1 rfl) ?_
        refine x_iconst C dX7_nextTried_15 ?_
        refine x_isub C dX7_nextTried_16 ?_
        have q25 := (ck_some h24).1
        have h26 := (ck_some h24).2
        clear h24
        have q27 := (ck_some h26).1
        have h28 := (ck_some h26).2
        clear h26
        refine x_icmp_ne (tgt := 33) C dX7_nextTried_17 (by decide) q25 q27 (fun c29 => ?_) (fun c29 => ?_)
        · have h30 := if_n h28 c29
          clear h28
          cases h30
          have h32 := lp_R hx4
          subst h32
          exact hK4 _ _ _ Z (lv_sub hl [0, 2] rfl)
        · have h31 := if_p h28 c29
          clear h28
          refine lv_aload_n C.1 C.2.1 dX7_nextTried_20 rfl (lv_at hl 0 rfl) ?_
          refine x_get C Z 0 rfl rfl i_X7_X7_nextTried (k := 22) (by decide) (List.mem_of_getElem? (i := 1) rfl) rfl dX7_nextTried_21 ?_
          refine lv_iload_n C.1 C.2.1 dX7_nextTried_24 rfl (lv_at hl 2 rfl) ?_
          refine x_iconst C dX7_nextTried_25 ?_
          refine x_iast (ws2 := wM g aM sMv sMp sMt sMs sMc (up z4.2 z4.1 0)) C Z 19 rfl (by decide) q23 dX7_nextTried_26 rfl (fun H locs Z => ?_)
          refine x_iinc (lv' := [(3, .int (iI (z4.1 + (-1)))), (0, .ref (aM 0)), (2, .int (iI v2))]) C dX7_nextTried_27 hl (k := 2) rfl (by decide) rfl (fun ls hl => ?_)
          refine lv_goto (tgt := 4) C.1 C.2.1 dX7_nextTried_30 (by decide) ?_
          cases h31
          exact ih4 (z4.1 + (-1), up z4.2 z4.1 0) _ _ _ (lp_L2 hx4) Z (lv_sub hl [1, 2, 0] rfl)
  exact hL4 n (v1 - 1, sMr) _ _ _ hl4 Z (lv_sub hl [1, 3, 0] rfl)
abbrev rmX7_absent : Room := { frames := 2, cells := 0, slots := 0, locals := 46 }
theorem yk_X7_absent : xY yX7_absent RX7 cX7_absent 5 (some .int) wsX7_absent rmX7_absent 1 := ⟨⟨_, rfl⟩, by decide +kernel, rfl, rfl⟩
theorem i_X7_X7_absent : ∀ w ∈ u_ws RX7 TX7 23, w ∈ wsX7_absent := fun _ h => List.mem_cons_of_mem _ (List.mem_append_right _ h)
set_option maxHeartbeats 4000000 in
set_option maxRecDepth 100000 in
theorem k_X7_absent (l : Launch) (g : xG) (n : Nat) (aM : Nat → Nat) (sMv : MvS) (sMp : MpS) (sMt : MtS) (sMs : MsS) (sMc : McS) (sMr : MrS) (v1 : Int) (r : Int × MpS × MtS × MrS) (hf : p_X7_absent n sMv sMp sMt sMr v1 = some r) : xMi l yX7_absent wsX7_absent rmX7_absent g [.ref (aM 0), .int (iI v1)] (wM g aM sMv sMp sMt sMs sMc sMr) (wM g aM sMv r.2.1 r.2.2.1 sMs sMc r.2.2.2) r.1 := by
  refine x_ofW_i (own := RX7) (by decide) rfl rfl (Nat.le_of_ble_eq_true rfl) ?_
  intro p e s m args below meth c ls A QQ C hRet Z hl
  have hl : lv_has ls 5 [(0, .ref (aM 0)), (1, .int (iI v1))] := hl
  unfold p_X7_absent at hf
  refine lv_iload_n C.1 C.2.1 dX7_absent_0 rfl (lv_at hl 1 rfl) ?_
  refine x_iconst C dX7_absent_1 ?_
  refine x_bipush C dX7_absent_2 (by decide) ?_
  obtain ⟨r1, hr1, h2⟩ := bd_some hf
  clear hf
  refine x_callS_i (As := [.int (iI v1), .int (iI 1), .int (iI 8)]) (rest := []) C Z (k_X7_in l g n v1 1 8 r1 hr1) gX7_absent_X7_in yk_X7_in ⟨Nat.le_of_ble_eq_true rfl, Nat.le_of_ble_eq_true rfl⟩ ⟨Nat.zero_le _, Nat.zero_le _⟩ hl.1 rfl (Nat.le_of_ble_eq_true rfl) rfl dX7_absent_4 (fun H locs Z => ?_)
  have q3 := (ck_some h2).1
  have h4 := (ck_some h2).2
  clear h2
  refine x_if_ne (tgt := 13) C dX7_absent_7 (by decide) q3 (fun c5 => ?_) (fun c5 => ?_)
  · have h6 := if_n h4 c5
    clear h4
    refine lv_aload_n C.1 C.2.1 dX7_absent_13 rfl (lv_at hl 0 rfl) ?_
    obtain ⟨r8, hr8, h9⟩ := bd_some h6
    clear h6
    refine x_callV_v_id (As := []) (rest := []) (q0 := 0) C Z (k_X7_layPresent l g n aM sMv sMp sMt sMs sMc sMr r8 hr8) gX7_absent_X7_layPresent yk_X7_layPresent ⟨Nat.le_of_ble_eq_true rfl, Nat.le_of_ble_eq_true rfl⟩ rfl rfl ⟨Nat.zero_le _, Nat.zero_le _⟩ hl.1 rfl (Nat.le_of_ble_eq_true rfl) rfl dX7_absent_14 (fun H locs Z => ?_)
    refine x_iconst C dX7_absent_17 ?_
    refine lv_istore_n (lv' := [(2, .int (iI 1)), (0, .ref (aM 0)), (1, .int (iI v1))]) C.1 C.2.1 dX7_absent_18 rfl hl (by decide) rfl (fun ls hl => ?_)
    obtain ⟨ex19, hl19, h248⟩ := bd_some h9
    clear h9
    have hK19 : ∀ (e19 : Row × Int × MrS) (H : Heap) (locs : List Loc) (ls : Array Slot), ex19 = .inr e19 → xSt g A s (wM g aM sMv (e19.1, e19.2.1) r8 sMs sMc e19.2.2) H locs → lv_has ls 5 [] → W p l e rmX7_absent s m args below meth c H locs 0 0 QQ (F0 m 114 ls []) := by
      intro e19 H locs ls he Z hl
      subst he
      have h249 := (Sum.elim_inr ..).symm.trans h248
      clear h248
      refine x_bipush C dX7_absent_114 (by decide) ?_
      have h250 := Option.some.inj h249
      subst h250
      exact hRet _ _ _ _ Z dX7_absent_116
    have hL19 : ∀ (k19 : Nat) (z19 : Int × Row × Int × MrS) (H : Heap) (locs : List Loc) (ls : Array Slot), lp (p_X7_absent_b19 n r8 v1) k19 z19 = some ex19 → xSt g A s (wM g aM sMv (z19.2.1, z19.2.2.1) r8 sMs sMc z19.2.2.2) H locs → lv_has ls 5 [(0, .ref (aM 0)), (1, .int (iI v1)), (2, .int (iI z19.1))] → W p l e rmX7_absent s m args below meth c H locs 0 0 QQ (F0 m 19 ls []) := by
      intro k19
      induction k19 with
      | zero => intro z19 H locs ls h; exact (lp_0 h).elim
      | succ k19 ih19 =>
        intro z19 H locs ls h Z hl
        obtain ⟨x19, hb19, hx19⟩ := lp_s h
        clear h
        unfold p_X7_absent_b19 at hb19
        refine lv_iload_n C.1 C.2.1 dX7_absent_19 rfl (lv_at hl 2 rfl) ?_
        refine x_bipush C dX7_absent_20 (by decide) ?_
        have q129 := (ck_some hb19).1
        have h130 := (ck_some hb19).2
        clear hb19
        refine x_icmp_gt (tgt := 114) C dX7_absent_22 (by decide) q129 (by decide) (fun c131 => ?_) (fun c131 => ?_)
        · have h132 := if_p h130 c131
          clear h130
          cases h132
          exact hK19 (z19.2.1, z19.2.2.1, z19.2.2.2) _ _ _ (lp_R hx19).symm Z (lv_sub hl [] rfl)
        · have h133 := if_n h130 c131
          clear h130
          refine x_iconst C dX7_absent_25 ?_
          refine lv_istore_n (lv' := [(3, .int (iI 0)), (0, .ref (aM 0)), (1, .int (iI v1)), (2, .int (iI z19.1))]) C.1 C.2.1 dX7_absent_26 rfl hl (by decide) rfl (fun ls hl => ?_)
          obtain ⟨ex27, hl27, h154⟩ := bd_some h133
          clear h133
          have hK27 : ∀ (H : Heap) (locs : List Loc) (ls : Array Slot), xSt g A s (wM g aM sMv (z19.2.1, z19.2.2.1) r8 sMs sMc ex27) H locs → lv_has ls 5 [(0, .ref (aM 0)), (1, .int (iI v1)), (2, .int (iI z19.1))] → W p l e rmX7_absent s m args below meth c H locs 0 0 QQ (F0 m 45 ls []) := by
            intro H locs ls Z hl
            have h155 := h154
            clear h154
            refine x_iconst C dX7_absent_45 ?_
            refine lv_istore_n (lv' := [(3, .int (iI 1)), (0, .ref (aM 0)), (1, .int (iI v1)), (2, .int (iI z19.1))]) C.1 C.2.1 dX7_absent_46 rfl hl (by decide) rfl (fun ls hl => ?_)
            obtain ⟨ex47, hl47, h246⟩ := bd_some h155
            clear h155
            have hK47 : ∀ (e47 : Row × Int × MrS) (H : Heap) (locs : List Loc) (ls : Array Slot), ex47 = .inr e47 → xSt g A s (wM g aM sMv (e47.1, e47.2.1) r8 sMs sMc e47.2.2) H locs → lv_has ls 5 [(0, .ref (aM 0)), (1, .int (iI v1)), (2, .int (iI z19.1))] → W p l e rmX7_absent s m args below meth c H locs 0 0 QQ (F0 m 108 ls []) := by
              intro e47 H locs ls he Z hl
              subst he
              have h247 := (Sum.elim_inr ..).symm.trans h246
              clear h246
              refine x_iinc (lv' := [(2, .int (iI (z19.1 + 1))), (0, .ref (aM 0)), (1, .int (iI v1))]) C dX7_absent_108 hl (k := 2) rfl (by decide) rfl (fun ls hl => ?_)
              refine lv_goto (tgt := 19) C.1 C.2.1 dX7_absent_111 (by decide) ?_
              cases h247
              exact ih19 (z19.1 + 1, e47.1, e47.2.1, e47.2.2) _ _ _ (lp_L2 hx19) Z (lv_sub hl [1, 2, 0] rfl)
            have hL47 : ∀ (k47 : Nat) (z47 : Int × Row × Int × MrS) (H : Heap) (locs : List Loc) (ls : Array Slot), lp (p_X7_absent_b47 n r8 v1 z19.1) k47 z47 = some ex47 → xSt g A s (wM g aM sMv (z47.2.1, z47.2.2.1) r8 sMs sMc z47.2.2.2) H locs → lv_has ls 5 [(0, .ref (aM 0)), (1, .int (iI v1)), (2, .int (iI z19.1)), (3, .int (iI z47.1))] → W p l e rmX7_absent s m args below meth c H locs 0 0 QQ (F0 m 47 ls []) := by
              intro k47
              induction k47 with
              | zero => intro z47 H locs ls h; exact (lp_0 h).elim
              | succ k47 ih47 =>
                intro z47 H locs ls h Z hl
                obtain ⟨x47, hb47, hx47⟩ := lp_s h
                clear h
                unfold p_X7_absent_b47 at hb47
                refine lv_iload_n C.1 C.2.1 dX7_absent_47 rfl (lv_at hl 3 rfl) ?_
                have q201 := (ck_some hb47).1
                have h202 := (ck_some hb47).2
                clear hb47
                refine x_if_eq (tgt := 108) C dX7_absent_48 (by decide) q201 (fun c203 => ?_) (fun c203 => ?_)
                · have h204 := if_p h202 c203
                  clear h202
                  cases h204
                  exact hK47 (z47.2.1, z47.2.2.1, z47.2.2.2) _ _ _ (lp_R hx47).symm Z (lv_sub hl [0, 1, 2] rfl)
                · have h205 := if_n h202 c203
                  clear h202
                  refine lv_aload_n C.1 C.2.1 dX7_absent_51 rfl (lv_at hl 0 rfl) ?_
                  refine lv_iload_n C.1 C.2.1 dX7_absent_52 rfl (lv_at hl 2 rfl) ?_
                  obtain ⟨r206, hr206, h207⟩ := bd_some h205
                  clear h205
                  refine x_callV_i_id (As := [.int (iI z19.1)]) (rest := []) (q0 := 0) C Z (k_X7_isTriedFactor l g n aM sMv (z47.2.1, z47.2.2.1) r8 sMs sMc z47.2.2.2 z19.1 r206 hr206) gX7_absent_X7_isTriedFactor yk_X7_isTriedFactor ⟨Nat.le_of_ble_eq_true rfl, Nat.le_of_ble_eq_true rfl⟩ rfl rfl ⟨Nat.zero_le _, Nat.zero_le _⟩ hl.1 rfl (Nat.le_of_ble_eq_true rfl) rfl dX7_absent_53 (fun H locs Z => ?_)
                  have q208 := (ck_some h207).1
                  have h209 := (ck_some h207).2
                  clear h207
                  refine x_if_ne (tgt := 98) C dX7_absent_56 (by decide) q208 (fun c210 => ?_) (fun c210 => ?_)
                  · have h211 := if_n h209 c210
                    clear h209
                    refine lv_aload_n C.1 C.2.1 dX7_absent_98 rfl (lv_at hl 0 rfl) ?_
                    refine lv_iload_n C.1 C.2.1 dX7_absent_99 rfl (lv_at hl 2 rfl) ?_
                    refine lv_iload_n C.1 C.2.1 dX7_absent_100 rfl (lv_at hl 1 rfl) ?_
                    obtain ⟨r213, hr213, h214⟩ := bd_some h211
                    clear h211
                    refine x_callV_i_id (As := [.int (iI z19.1), .int (iI v1)]) (rest := []) (q0 := 0) C Z (k_X7_nextTried l g n aM sMv (z47.2.1, z47.2.2.1) r8 sMs sMc z47.2.2.2 z19.1 v1 r213 hr213) gX7_absent_X7_nextTried yk_X7_nextTried ⟨Nat.le_of_ble_eq_true rfl, Nat.le_of_ble_eq_true rfl⟩ rfl rfl ⟨Nat.zero_le _, Nat.zero_le _⟩ hl.1 rfl (Nat.le_of_ble_eq_true rfl) rfl dX7_absent_101 (fun H locs Z => ?_)
                    refine lv_istore_n (lv' := [(3, .int (iI r213.1)), (0, .ref (aM 0)), (1, .int (iI v1)), (2, .int (iI z19.1))]) C.1 C.2.1 dX7_absent_104 rfl hl (by decide) rfl (fun ls hl => ?_)
                    refine lv_goto (tgt := 47) C.1 C.2.1 dX7_absent_105 (by decide) ?_
                    cases h214
                    exact ih47 (r213.1, z47.2.1, z47.2.2.1, r213.2) _ _ _ (lp_L2 hx47) Z (lv_sub hl [1, 2, 3, 0] rfl)
                  · have h212 := if_p h209 c210
                    clear h209
                    refine x_iconst C dX7_absent_59 ?_
                    refine lv_istore (lv' := [(4, .int (iI 0)), (0, .ref (aM 0)), (1, .int (iI v1)), (2, .int (iI z19.1)), (3, .int (iI z47.1))]) C.1 C.2.1 dX7_absent_60 hl (by decide) rfl (fun ls hl => ?_)
                    obtain ⟨ex62, hl62, h239⟩ := bd_some h212
                    clear h212
                    have hK62 : ∀ (H : Heap) (locs : List Loc) (ls : Array Slot), xSt g A s (wM g aM sMv (ex62, z47.2.2.1) r8 sMs sMc z47.2.2.2) H locs → lv_has ls 5 [(0, .ref (aM 0)), (2, .int (iI z19.1))] → W p l e rmX7_absent s m args below meth c H locs 0 0 QQ (F0 m 91 ls []) := by
                      intro H locs ls Z hl
                      have h240 := h239
                      clear h239
                      refine lv_aload_n C.1 C.2.1 dX7_absent_91 rfl (lv_at hl 0 rfl) ?_
                      refine lv_iload_n C.1 C.2.1 dX7_absent_92 rfl (lv_at hl 1 rfl) ?_
                      refine x_put (ws2 := wM g aM sMv (ex62, z19.1) r8 sMs sMc z47.2.2.2) C Z 0 rfl rfl i_X7_X7_absent tyX7_ok nmX7 (k := 7) (by decide) (List.mem_of_getElem? (i := 3) rfl) rfl rfl (Nat.le_of_ble_eq_true rfl) dX7_absent_93 rfl (fun H locs Z => ?_)
                      refine lv_iload_n C.1 C.2.1 dX7_absent_96 rfl (lv_at hl 1 rfl) ?_
                      cases h240
                      have h241 := lp_R hx47
                      subst h241
                      have h242 := (Sum.elim_inl ..).symm.trans h246
                      cases h242
                      have h243 := lp_R hx19
                      subst h243
                      have h244 := (Sum.elim_inl ..).symm.trans h248
                      have h245 := Option.some.inj h244
                      subst h245
                      exact hRet _ _ _ _ Z dX7_absent_97
                    have hL62 : ∀ (k62 : Nat) (z62 : Int × Row) (H : Heap) (locs : List Loc) (ls : Array Slot), lp (p_X7_absent_b62 n z47.2.2.2 z19.1) k62 z62 = some ex62 → xSt g A s (wM g aM sMv (z62.2, z47.2.2.1) r8 sMs sMc z47.2.2.2) H locs → lv_has ls 5 [(0, .ref (aM 0)), (2, .int (iI z19.1)), (4, .int (iI z62.1))] → W p l e rmX7_absent s m args below meth c H locs 0 0 QQ (F0 m 62 ls []) := by
                      intro k62
                      induction k62 with
                      | zero => intro z62 H locs ls h; exact (lp_0 h).elim
                      | succ k62 ih62 =>
                        intro z62 H locs ls h Z hl
                        obtain ⟨x62, hb62, hx62⟩ := lp_s h
                        clear h
                        unfold p_X7_absent_b62 at hb62
                        refine lv_iload C.1 C.2.1 dX7_absent_62 (lv_at hl 2 rfl) ?_
                        refine lv_iload_n C.1 C.2.1 dX7_absent_64 rfl (lv_at hl 1 rfl) ?_
                        have q227 := (ck_some hb62).1
                        have h228 := (ck_some hb62).2
                        clear hb62
                        have q229 := (ck_some h228).1
                        have h230 := (ck_some h228).2
                        clear h228
                        refine x_icmp_ge (tgt := 91) C dX7_absent_65 (by decide) q227 q229 (fun c231 => ?_) (fun c231 => ?_)
                        · have h232 := if_n h230 c231
                          clear h230
                          cases h232
                          have h234 := lp_R hx62
                          subst h234
                          exact hK62 _ _ _ Z (lv_sub hl [0, 1] rfl)
                        · have h233 := if_p h230 c231
                          clear h230
                          refine lv_aload_n C.1 C.2.1 dX7_absent_68 rfl (lv_at hl 0 rfl) ?_
                          refine x_get C Z 0 rfl rfl i_X7_X7_absent (k := 6) (by decide) (List.mem_of_getElem? (i := 2) rfl) rfl dX7_absent_69 ?_
                          refine lv_iload C.1 C.2.1 dX7_absent_72 (lv_at hl 2 rfl) ?_
                          refine x_bipush C dX7_absent_74 (by decide) ?_
                          refine lv_aload_n C.1 C.2.1 dX7_absent_76 rfl (lv_at hl 0 rfl) ?_
                          refine x_get C Z 0 rfl rfl i_X7_X7_absent (k := 22) (by decide) (List.mem_of_getElem? (i := 1) rfl) rfl dX7_absent_77 ?_
                          refine lv_iload C.1 C.2.1 dX7_absent_80 (lv_at hl 2 rfl) ?_
                          have q235 := (ix_some h233).1
                          have h236 := (ix_some h233).2
                          clear h233
                          refine x_iald C Z 19 rfl (by decide) q235 dX7_absent_82 ?_
                          refine x_iadd C dX7_absent_83 ?_
                          have q237 := (ix_some h236).1
                          have h238 := (ix_some h236).2
                          clear h236
                          refine x_iast (ws2 := wM g aM sMv (up z62.2 z62.1 (97 + (z47.2.2.2 z62.1)), z47.2.2.1) r8 sMs sMc z47.2.2.2) C Z 5 rfl (by decide) q237 dX7_absent_84 rfl (fun H locs Z => ?_)
                          refine x_iinc (lv' := [(4, .int (iI (z62.1 + 1))), (0, .ref (aM 0)), (2, .int (iI z19.1))]) C dX7_absent_85 hl (k := 2) rfl (by decide) rfl (fun ls hl => ?_)
                          refine lv_goto (tgt := 62) C.1 C.2.1 dX7_absent_88 (by decide) ?_
                          cases h238
                          exact ih62 (z62.1 + 1, up z62.2 z62.1 (97 + (z47.2.2.2 z62.1))) _ _ _ (lp_L2 hx62) Z (lv_sub hl [1, 2, 0] rfl)
                    exact hL62 n (0, z47.2.1) _ _ _ hl62 Z (lv_sub hl [1, 3, 0] rfl)
            exact hL47 n (1, z19.2.1, z19.2.2.1, ex27) _ _ _ hl47 Z (lv_sub hl [1, 2, 3, 0] rfl)
          have hL27 : ∀ (k27 : Nat) (z27 : Int × Row) (H : Heap) (locs : List Loc) (ls : Array Slot), lp (p_X7_absent_b27 n z19.1) k27 z27 = some ex27 → xSt g A s (wM g aM sMv (z19.2.1, z19.2.2.1) r8 sMs sMc z27.2) H locs → lv_has ls 5 [(0, .ref (aM 0)), (1, .int (iI v1)), (2, .int (iI z19.1)), (3, .int (iI z27.1))] → W p l e rmX7_absent s m args below meth c H locs 0 0 QQ (F0 m 27 ls []) := by
            intro k27
            induction k27 with
            | zero => intro z27 H locs ls h; exact (lp_0 h).elim
            | succ k27 ih27 =>
              intro z27 H locs ls h Z hl
              obtain ⟨x27, hb27, hx27⟩ := lp_s h
              clear h
              unfold p_X7_absent_b27 at hb27
              refine lv_iload_n C.1 C.2.1 dX7_absent_27 rfl (lv_at hl 3 rfl) ?_
              refine lv_iload_n C.1 C.2.1 dX7_absent_28 rfl (lv_at hl 2 rfl) ?_
              have q144 := (ck_some hb27).1
              have h145 := (ck_some hb27).2
              clear hb27
              have q146 := (ck_some h145).1
              have h147 := (ck_some h145).2
              clear h145
              refine x_icmp_ge (tgt := 45) C dX7_absent_29 (by decide) q144 q146 (fun c148 => ?_) (fun c148 => ?_)
              · have h149 := if_n h147 c148
                clear h147
                cases h149
                have h151 := lp_R hx27
                subst h151
                exact hK27 _ _ _ Z (lv_sub hl [0, 1, 2] rfl)
              · have h150 := if_p h147 c148
                clear h147
                refine lv_aload_n C.1 C.2.1 dX7_absent_32 rfl (lv_at hl 0 rfl) ?_
                refine x_get C Z 0 rfl rfl i_X7_X7_absent (k := 22) (by decide) (List.mem_of_getElem? (i := 1) rfl) rfl dX7_absent_33 ?_
                refine lv_iload_n C.1 C.2.1 dX7_absent_36 rfl (lv_at hl 3 rfl) ?_
                refine x_iconst C dX7_absent_37 ?_
                have q152 := (ix_some h150).1
                have h153 := (ix_some h150).2
                clear h150
                refine x_iast (ws2 := wM g aM sMv (z19.2.1, z19.2.2.1) r8 sMs sMc (up z27.2 z27.1 0)) C Z 19 rfl (by decide) q152 dX7_absent_38 rfl (fun H locs Z => ?_)
                refine x_iinc (lv' := [(3, .int (iI (z27.1 + 1))), (0, .ref (aM 0)), (1, .int (iI v1)), (2, .int (iI z19.1))]) C dX7_absent_39 hl (k := 3) rfl (by decide) rfl (fun ls hl => ?_)
                refine lv_goto (tgt := 27) C.1 C.2.1 dX7_absent_42 (by decide) ?_
                cases h153
                exact ih27 (z27.1 + 1, up z27.2 z27.1 0) _ _ _ (lp_L2 hx27) Z (lv_sub hl [1, 2, 3, 0] rfl)
          exact hL27 n (0, z19.2.2.2) _ _ _ hl27 Z (lv_sub hl [1, 2, 3, 0] rfl)
    exact hL19 n (1, sMp.pad, sMp.padMany, sMr) _ _ _ hl19 Z (lv_sub hl [1, 2, 0] rfl)
  · have h7 := if_p h4 c5
    clear h4
    refine x_bipush C dX7_absent_10 (by decide) ?_
    have h251 := Option.some.inj h7
    subst h251
    exact hRet _ _ _ _ Z dX7_absent_12
abbrev rmX7_lettersOfAll : Room := { frames := 1, cells := 0, slots := 0, locals := 21 }
theorem yk_X7_lettersOfAll : xY yX7_lettersOfAll RX7 cX7_lettersOfAll 3 (some .int) wsX7_lettersOfAll rmX7_lettersOfAll 0 := ⟨⟨_, rfl⟩, by decide +kernel, rfl, rfl⟩
theorem i_X7_X7_lettersOfAll : ∀ w ∈ u_ws RX7 TX7 23, w ∈ wsX7_lettersOfAll := fun _ h => List.mem_cons_of_mem _ (List.mem_append_right _ h)
set_option maxHeartbeats 4000000 in
set_option maxRecDepth 100000 in
theorem k_X7_lettersOfAll (l : Launch) (g : xG) (n : Nat) (aM : Nat → Nat) (sMv : MvS) (sMp : MpS) (sMt : MtS) (sMs : MsS) (sMc : McS) (sMr : MrS) (r : Int) (hf : p_X7_lettersOfAll n sMt = some r) : xMi l yX7_lettersOfAll wsX7_lettersOfAll rmX7_lettersOfAll g [.ref (aM 0)] (wM g aM sMv sMp sMt sMs sMc sMr) (wM g aM sMv sMp sMt sMs sMc sMr) r := by
  refine x_ofW_i (own := RX7) (by decide) rfl rfl (Nat.le_of_ble_eq_true rfl) ?_
  intro p e s m args below meth c ls A QQ C hRet Z hl
  have hl : lv_has ls 3 [(0, .ref (aM 0))] := hl
  unfold p_X7_lettersOfAll at hf
  refine x_iconst C dX7_lettersOfAll_0 ?_
  refine lv_istore_n (lv' := [(1, .int (iI 0)), (0, .ref (aM 0))]) C.1 C.2.1 dX7_lettersOfAll_1 rfl hl (by decide) rfl (fun ls hl => ?_)
  refine x_iconst C dX7_lettersOfAll_2 ?_
  refine lv_istore_n (lv' := [(2, .int (iI 0)), (1, .int (iI 0)), (0, .ref (aM 0))]) C.1 C.2.1 dX7_lettersOfAll_3 rfl hl (by decide) rfl (fun ls hl => ?_)
  obtain ⟨ex4, hl4, h25⟩ := bd_some hf
  clear hf
  have hK4 : ∀ (H : Heap) (locs : List Loc) (ls : Array Slot), xSt g A s (wM g aM sMv sMp sMt sMs sMc sMr) H locs → lv_has ls 3 [(1, .int (iI ex4))] → W p l e rmX7_lettersOfAll s m args below meth c H locs 0 0 QQ (F0 m 30 ls []) := by
    intro H locs ls Z hl
    have h26 := h25
    clear h25
    refine lv_iload_n C.1 C.2.1 dX7_lettersOfAll_30 rfl (lv_at hl 0 rfl) ?_
    have h27 := Option.some.inj h26
    subst h27
    exact hRet _ _ _ _ Z dX7_lettersOfAll_31
  have hL4 : ∀ (k4 : Nat) (z4 : Int × Int) (H : Heap) (locs : List Loc) (ls : Array Slot), lp (p_X7_lettersOfAll_b4 n sMt) k4 z4 = some ex4 → xSt g A s (wM g aM sMv sMp sMt sMs sMc sMr) H locs → lv_has ls 3 [(0, .ref (aM 0)), (1, .int (iI z4.1)), (2, .int (iI z4.2))] → W p l e rmX7_lettersOfAll s m args below meth c H locs 0 0 QQ (F0 m 4 ls []) := by
    intro k4
    induction k4 with
    | zero => intro z4 H locs ls h; exact (lp_0 h).elim
    | succ k4 ih4 =>
      intro z4 H locs ls h Z hl
      obtain ⟨x4, hb4, hx4⟩ := lp_s h
      clear h
      unfold p_X7_lettersOfAll_b4 at hb4
      refine lv_iload_n C.1 C.2.1 dX7_lettersOfAll_4 rfl (lv_at hl 2 rfl) ?_
      refine lv_aload_n C.1 C.2.1 dX7_lettersOfAll_5 rfl (lv_at hl 0 rfl) ?_
      refine x_get C Z 0 rfl rfl i_X7_X7_lettersOfAll (k := 12) (by decide) (List.mem_of_getElem? (i := 1) rfl) rfl dX7_lettersOfAll_6 ?_
      refine x_iconst C dX7_lettersOfAll_9 ?_
      refine x_iald C Z 10 rfl (by decide) (by decide) dX7_lettersOfAll_10 ?_
      have q15 := (ck_some hb4).1
      have h16 := (ck_some hb4).2
      clear hb4
      have q17 := (ck_some h16).1
      have h18 := (ck_some h16).2
      clear h16
      refine x_icmp_ge (tgt := 30) C dX7_lettersOfAll_11 (by decide) q15 q17 (fun c19 => ?_) (fun c19 => ?_)
      · have h20 := if_n h18 c19
        clear h18
        cases h20
        have h22 := lp_R hx4
        subst h22
        exact hK4 _ _ _ Z (lv_sub hl [1] rfl)
      · have h21 := if_p h18 c19
        clear h18
        refine lv_iload_n C.1 C.2.1 dX7_lettersOfAll_14 rfl (lv_at hl 1 rfl) ?_
        refine x_iconst C dX7_lettersOfAll_15 ?_
        refine lv_aload_n C.1 C.2.1 dX7_lettersOfAll_16 rfl (lv_at hl 0 rfl) ?_
        refine lv_iload_n C.1 C.2.1 dX7_lettersOfAll_17 rfl (lv_at hl 2 rfl) ?_
        obtain ⟨r23, hr23, h24⟩ := bd_some h21
        clear h21
        refine x_callV_i_id (As := [.int (iI z4.2)]) (rest := [.int (iI 1), .int (iI z4.1)]) (q0 := 0) C Z (k_X7_letterAt l g n aM sMv sMp sMt sMs sMc sMr z4.2 r23 hr23) gX7_lettersOfAll_X7_letterAt yk_X7_letterAt ⟨Nat.le_of_ble_eq_true rfl, Nat.le_of_ble_eq_true rfl⟩ rfl rfl ⟨Nat.zero_le _, Nat.zero_le _⟩ hl.1 rfl (Nat.le_of_ble_eq_true rfl) rfl dX7_lettersOfAll_18 (fun H locs Z => ?_)
        refine x_ishl C dX7_lettersOfAll_21 ?_
        refine x_ior C dX7_lettersOfAll_22 ?_
        refine lv_istore_n (lv' := [(1, .int (iI (bior z4.1 (bishl 1 r23)))), (0, .ref (aM 0)), (2, .int (iI z4.2))]) C.1 C.2.1 dX7_lettersOfAll_23 rfl hl (by decide) rfl (fun ls hl => ?_)
        refine x_iinc (lv' := [(2, .int (iI (z4.2 + 1))), (1, .int (iI (bior z4.1 (bishl 1 r23)))), (0, .ref (aM 0))]) C dX7_lettersOfAll_24 hl (k := 2) rfl (by decide) rfl (fun ls hl => ?_)
        refine lv_goto (tgt := 4) C.1 C.2.1 dX7_lettersOfAll_27 (by decide) ?_
        cases h24
        exact ih4 (bior z4.1 (bishl 1 r23), z4.2 + 1) _ _ _ (lp_L2 hx4) Z (lv_sub hl [2, 1, 0] rfl)
  exact hL4 n (0, 0) _ _ _ hl4 Z (lv_sub hl [2, 1, 0] rfl)
abbrev rmX7_minimal : Room := { frames := 4, cells := 0, slots := 0, locals := 95 }
theorem yk_X7_minimal : xY yX7_minimal RX7 cX7_minimal 5 (some .int) wsX7_minimal rmX7_minimal 0 := ⟨⟨_, rfl⟩, by decide +kernel, rfl, rfl⟩
theorem i_X7_X7_minimal : ∀ w ∈ u_ws RX7 TX7 23, w ∈ wsX7_minimal := fun _ h => List.mem_cons_of_mem _ (List.mem_append_right _ h)
set_option maxHeartbeats 4000000 in
set_option maxRecDepth 100000 in
theorem k_X7_minimal (l : Launch) (g : xG) (n : Nat) (aM : Nat → Nat) (sMv : MvS) (sMp : MpS) (sMt : MtS) (sMs : MsS) (sMc : McS) (sMr : MrS) (r : Int × MtS × MsS) (hf : p_X7_minimal n sMv sMt sMs = some r) : xMi l yX7_minimal wsX7_minimal rmX7_minimal g [.ref (aM 0)] (wM g aM sMv sMp sMt sMs sMc sMr) (wM g aM sMv sMp r.2.1 r.2.2 sMc sMr) r.1 := by
  refine x_ofW_i (own := RX7) (by decide) rfl rfl (Nat.le_of_ble_eq_true rfl) ?_
  intro p e s m args below meth c ls A QQ C hRet Z hl
  have hl : lv_has ls 5 [(0, .ref (aM 0))] := hl
  unfold p_X7_minimal at hf
  refine lv_aload_n C.1 C.2.1 dX7_minimal_0 rfl (lv_at hl 0 rfl) ?_
  obtain ⟨r1, hr1, h2⟩ := bd_some hf
  clear hf
  refine x_callV_v_id (As := []) (rest := []) (q0 := 0) C Z (k_X7_layPresent l g n aM sMv sMp sMt sMs sMc sMr r1 hr1) gX7_minimal_X7_layPresent yk_X7_layPresent ⟨Nat.le_of_ble_eq_true rfl, Nat.le_of_ble_eq_true rfl⟩ rfl rfl ⟨Nat.zero_le _, Nat.zero_le _⟩ hl.1 rfl (Nat.le_of_ble_eq_true rfl) rfl dX7_minimal_1 (fun H locs Z => ?_)
  refine lv_aload_n C.1 C.2.1 dX7_minimal_4 rfl (lv_at hl 0 rfl) ?_
  obtain ⟨r3, hr3, h4⟩ := bd_some h2
  clear h2
  refine x_callV_v_id (As := []) (rest := []) (q0 := 0) C Z (k_X7_sort l g n aM sMv sMp r1 sMs sMc sMr r3 hr3) gX7_minimal_X7_sort yk_X7_sort ⟨Nat.le_of_ble_eq_true rfl, Nat.le_of_ble_eq_true rfl⟩ rfl rfl ⟨Nat.zero_le _, Nat.zero_le _⟩ hl.1 rfl (Nat.le_of_ble_eq_true rfl) rfl dX7_minimal_5 (fun H locs Z => ?_)
  refine x_iconst C dX7_minimal_8 ?_
  refine lv_istore_n (lv' := [(1, .int (iI 0)), (0, .ref (aM 0))]) C.1 C.2.1 dX7_minimal_9 rfl hl (by decide) rfl (fun ls hl => ?_)
  refine x_iconst C dX7_minimal_10 ?_
  refine lv_istore_n (lv' := [(2, .int (iI 0)), (1, .int (iI 0)), (0, .ref (aM 0))]) C.1 C.2.1 dX7_minimal_11 rfl hl (by decide) rfl (fun ls hl => ?_)
  obtain ⟨ex12, hl12, h143⟩ := bd_some h4
  clear h4
  have hK12 : ∀ (H : Heap) (locs : List Loc) (ls : Array Slot), xSt g A s (wM g aM sMv sMp r1 r3 sMc sMr) H locs → lv_has ls 5 [(1, .int (iI ex12))] → W p l e rmX7_minimal s m args below meth c H locs 0 0 QQ (F0 m 109 ls []) := by
    intro H locs ls Z hl
    have h144 := h143
    clear h143
    refine lv_iload_n C.1 C.2.1 dX7_minimal_109 rfl (lv_at hl 0 rfl) ?_
    have h145 := Option.some.inj h144
    subst h145
    exact hRet _ _ _ _ Z dX7_minimal_110
  have hL12 : ∀ (k12 : Nat) (z12 : Int × Int) (H : Heap) (locs : List Loc) (ls : Array Slot), lp (p_X7_minimal_b12 n r1 r3) k12 z12 = some ex12 → xSt g A s (wM g aM sMv sMp r1 r3 sMc sMr) H locs → lv_has ls 5 [(0, .ref (aM 0)), (1, .int (iI z12.1)), (2, .int (iI z12.2))] → W p l e rmX7_minimal s m args below meth c H locs 0 0 QQ (F0 m 12 ls []) := by
    intro k12
    induction k12 with
    | zero => intro z12 H locs ls h; exact (lp_0 h).elim
    | succ k12 ih12 =>
      intro z12 H locs ls h Z hl
      obtain ⟨x12, hb12, hx12⟩ := lp_s h
      clear h
      unfold p_X7_minimal_b12 at hb12
      refine lv_iload_n C.1 C.2.1 dX7_minimal_12 rfl (lv_at hl 2 rfl) ?_
      refine lv_aload_n C.1 C.2.1 dX7_minimal_13 rfl (lv_at hl 0 rfl) ?_
      refine x_get C Z 0 rfl rfl i_X7_X7_minimal (k := 12) (by decide) (List.mem_of_getElem? (i := 1) rfl) rfl dX7_minimal_14 ?_
      refine x_iconst C dX7_minimal_17 ?_
      refine x_iald C Z 10 rfl (by decide) (by decide) dX7_minimal_18 ?_
      have q76 := (ck_some hb12).1
      have h77 := (ck_some hb12).2
      clear hb12
      have q78 := (ck_some h77).1
      have h79 := (ck_some h77).2
      clear h77
      refine x_icmp_ge (tgt := 109) C dX7_minimal_19 (by decide) q76 q78 (fun c80 => ?_) (fun c80 => ?_)
      · have h81 := if_n h79 c80
        clear h79
        cases h81
        have h83 := lp_R hx12
        subst h83
        exact hK12 _ _ _ Z (lv_sub hl [1] rfl)
      · have h82 := if_p h79 c80
        clear h79
        refine lv_aload_n C.1 C.2.1 dX7_minimal_22 rfl (lv_at hl 0 rfl) ?_
        refine x_get C Z 0 rfl rfl i_X7_X7_minimal (k := 16) (by decide) (List.mem_of_getElem? (i := 2) rfl) rfl dX7_minimal_23 ?_
        refine lv_iload_n C.1 C.2.1 dX7_minimal_26 rfl (lv_at hl 2 rfl) ?_
        have q84 := (ix_some h82).1
        have h85 := (ix_some h82).2
        clear h82
        refine x_iald C Z 14 rfl (by decide) q84 dX7_minimal_27 ?_
        refine x_iconst C dX7_minimal_28 ?_
        refine x_iadd C dX7_minimal_29 ?_
        refine lv_istore_n (lv' := [(3, .int (iI ((r3.near z12.2) + 1))), (0, .ref (aM 0)), (1, .int (iI z12.1)), (2, .int (iI z12.2))]) C.1 C.2.1 dX7_minimal_30 rfl hl (by decide) rfl (fun ls hl => ?_)
        obtain ⟨ex31, hl31, h141⟩ := bd_some h85
        clear h85
        have hK31 : ∀ (H : Heap) (locs : List Loc) (ls : Array Slot), xSt g A s (wM g aM sMv sMp r1 r3 sMc sMr) H locs → lv_has ls 5 [(0, .ref (aM 0)), (1, .int (iI ex31)), (2, .int (iI z12.2))] → W p l e rmX7_minimal s m args below meth c H locs 0 0 QQ (F0 m 103 ls []) := by
          intro H locs ls Z hl
          have h142 := h141
          clear h141
          refine x_iinc (lv' := [(2, .int (iI (z12.2 + 1))), (0, .ref (aM 0)), (1, .int (iI ex31))]) C dX7_minimal_103 hl (k := 2) rfl (by decide) rfl (fun ls hl => ?_)
          refine lv_goto (tgt := 12) C.1 C.2.1 dX7_minimal_106 (by decide) ?_
          cases h142
          exact ih12 (ex31, z12.2 + 1) _ _ _ (lp_L2 hx12) Z (lv_sub hl [1, 2, 0] rfl)
        have hL31 : ∀ (k31 : Nat) (z31 : Int × Int) (H : Heap) (locs : List Loc) (ls : Array Slot), lp (p_X7_minimal_b31 n r1 r3 z12.2) k31 z31 = some ex31 → xSt g A s (wM g aM sMv sMp r1 r3 sMc sMr) H locs → lv_has ls 5 [(0, .ref (aM 0)), (1, .int (iI z31.1)), (2, .int (iI z12.2)), (3, .int (iI z31.2))] → W p l e rmX7_minimal s m args below meth c H locs 0 0 QQ (F0 m 31 ls []) := by
          intro k31
          induction k31 with
          | zero => intro z31 H locs ls h; exact (lp_0 h).elim
          | succ k31 ih31 =>
            intro z31 H locs ls h Z hl
            obtain ⟨x31, hb31, hx31⟩ := lp_s h
            clear h
            unfold p_X7_minimal_b31 at hb31
            have hJ73 : ∀ (v1_73 : Int) (v3_73 : Int) (t0_73 : Int) (H : Heap) (locs : List Loc) (ls : Array Slot), p_X7_minimal_j73 n r1 r3 z12.2 v1_73 v3_73 t0_73 = some x31 → xSt g A s (wM g aM sMv sMp r1 r3 sMc sMr) H locs → lv_has ls 5 [(0, .ref (aM 0)), (1, .int (iI v1_73)), (2, .int (iI z12.2)), (3, .int (iI v3_73))] → W p l e rmX7_minimal s m args below meth c H locs 0 0 QQ (F0 m 73 ls [.int (iI t0_73)]) := by
              intro v1_73 v3_73 t0_73 H locs ls hj73 Z hl
              unfold p_X7_minimal_j73 at hj73
              refine lv_istore (lv' := [(4, .int (iI t0_73)), (0, .ref (aM 0)), (1, .int (iI v1_73)), (2, .int (iI z12.2)), (3, .int (iI v3_73))]) C.1 C.2.1 dX7_minimal_73 hl (by decide) rfl (fun ls hl => ?_)
              refine lv_iload_n C.1 C.2.1 dX7_minimal_75 rfl (lv_at hl 2 rfl) ?_
              refine lv_iload C.1 C.2.1 dX7_minimal_76 (lv_at hl 0 rfl) ?_
              refine lv_aload_n C.1 C.2.1 dX7_minimal_78 rfl (lv_at hl 1 rfl) ?_
              refine lv_aload_n C.1 C.2.1 dX7_minimal_79 rfl (lv_at hl 1 rfl) ?_
              refine x_get C Z 0 rfl rfl i_X7_X7_minimal (k := 15) (by decide) (List.mem_of_getElem? (i := 3) rfl) rfl dX7_minimal_80 ?_
              refine lv_iload_n C.1 C.2.1 dX7_minimal_83 rfl (lv_at hl 3 rfl) ?_
              have q114 := (ix_some hj73).1
              have h115 := (ix_some hj73).2
              clear hj73
              refine x_iald C Z 13 rfl (by decide) q114 dX7_minimal_84 ?_
              refine lv_iload_n C.1 C.2.1 dX7_minimal_85 rfl (lv_at hl 4 rfl) ?_
              obtain ⟨r116, hr116, h117⟩ := bd_some h115
              clear h115
              refine x_callV_i_id (As := [.int (iI (r3.sorted z12.2)), .int (iI v3_73)]) (rest := [.int (iI t0_73), .int (iI v1_73)]) (q0 := 0) C Z (k_X7_nextOf l g n aM sMv sMp r1 r3 sMc sMr (r3.sorted z12.2) v3_73 r116 hr116) gX7_minimal_X7_nextOf yk_X7_nextOf ⟨Nat.le_of_ble_eq_true rfl, Nat.le_of_ble_eq_true rfl⟩ rfl rfl ⟨Nat.zero_le _, Nat.zero_le _⟩ hl.1 rfl (Nat.le_of_ble_eq_true rfl) rfl dX7_minimal_86 (fun H locs Z => ?_)
              refine x_iconst C dX7_minimal_89 ?_
              refine x_ixor C dX7_minimal_90 ?_
              refine x_iand C dX7_minimal_91 ?_
              obtain ⟨r118, hr118, h119⟩ := bd_some h117
              clear h117
              refine x_callS_i (As := [.int (iI (biand t0_73 (bixor r116 (-1))))]) (rest := [.int (iI v1_73)]) C Z (k_X7_sizeOf l g n (biand t0_73 (bixor r116 (-1))) r118 hr118) gX7_minimal_X7_sizeOf yk_X7_sizeOf ⟨Nat.le_of_ble_eq_true rfl, Nat.le_of_ble_eq_true rfl⟩ ⟨Nat.zero_le _, Nat.zero_le _⟩ hl.1 rfl (Nat.le_of_ble_eq_true rfl) rfl dX7_minimal_92 (fun H locs Z => ?_)
              refine x_iadd C dX7_minimal_95 ?_
              refine lv_istore_n (lv' := [(1, .int (iI (v1_73 + r118))), (4, .int (iI t0_73)), (0, .ref (aM 0)), (2, .int (iI z12.2)), (3, .int (iI v3_73))]) C.1 C.2.1 dX7_minimal_96 rfl hl (by decide) rfl (fun ls hl => ?_)
              refine x_iinc (lv' := [(3, .int (iI (v3_73 + 1))), (1, .int (iI (v1_73 + r118))), (4, .int (iI t0_73)), (0, .ref (aM 0)), (2, .int (iI z12.2))]) C dX7_minimal_97 hl (k := 4) rfl (by decide) rfl (fun ls hl => ?_)
              refine lv_goto (tgt := 31) C.1 C.2.1 dX7_minimal_100 (by decide) ?_
              cases h119
              exact ih31 (v1_73 + r118, v3_73 + 1) _ _ _ (lp_L2 hx31) Z (lv_sub hl [3, 1, 4, 0] rfl)
            refine lv_iload_n C.1 C.2.1 dX7_minimal_31 rfl (lv_at hl 3 rfl) ?_
            refine lv_aload_n C.1 C.2.1 dX7_minimal_32 rfl (lv_at hl 0 rfl) ?_
            refine x_iconst C dX7_minimal_33 ?_
            refine lv_aload_n C.1 C.2.1 dX7_minimal_34 rfl (lv_at hl 0 rfl) ?_
            refine x_get C Z 0 rfl rfl i_X7_X7_minimal (k := 15) (by decide) (List.mem_of_getElem? (i := 3) rfl) rfl dX7_minimal_35 ?_
            refine lv_iload_n C.1 C.2.1 dX7_minimal_38 rfl (lv_at hl 2 rfl) ?_
            have q120 := (ix_some hb31).1
            have h121 := (ix_some hb31).2
            clear hb31
            refine x_iald C Z 13 rfl (by decide) q120 dX7_minimal_39 ?_
            obtain ⟨r122, hr122, h123⟩ := bd_some h121
            clear h121
            refine x_callV_i_id (As := [.int (iI 0), .int (iI (r3.sorted z12.2))]) (rest := [.int (iI z31.2)]) (q0 := 0) C Z (k_X7_rest l g n aM sMv sMp r1 r3 sMc sMr 0 (r3.sorted z12.2) r122 hr122) gX7_minimal_X7_rest yk_X7_rest ⟨Nat.le_of_ble_eq_true rfl, Nat.le_of_ble_eq_true rfl⟩ rfl rfl ⟨Nat.zero_le _, Nat.zero_le _⟩ hl.1 rfl (Nat.le_of_ble_eq_true rfl) rfl dX7_minimal_40 (fun H locs Z => ?_)
            have q124 := (ck_some h123).1
            have h125 := (ck_some h123).2
            clear h123
            have q126 := (ck_some h125).1
            have h127 := (ck_some h125).2
            clear h125
            refine x_icmp_gt (tgt := 103) C dX7_minimal_43 (by decide) q124 q126 (fun c128 => ?_) (fun c128 => ?_)
            · have h129 := if_p h127 c128
              clear h127
              cases h129
              have h131 := lp_R hx31
              subst h131
              exact hK31 _ _ _ Z (lv_sub hl [0, 1, 2] rfl)
            · have h130 := if_n h127 c128
              clear h127
              refine lv_iload_n C.1 C.2.1 dX7_minimal_46 rfl (lv_at hl 3 rfl) ?_
              refine x_iconst C dX7_minimal_47 ?_
              refine x_icmp_ne (tgt := 58) C dX7_minimal_48 (by decide) q124 (by decide) (fun c132 => ?_) (fun c132 => ?_)
              · have h133 := if_n h130 c132
                clear h130
                refine lv_aload_n C.1 C.2.1 dX7_minimal_58 rfl (lv_at hl 0 rfl) ?_
                refine lv_aload_n C.1 C.2.1 dX7_minimal_59 rfl (lv_at hl 0 rfl) ?_
                refine x_get C Z 0 rfl rfl i_X7_X7_minimal (k := 15) (by decide) (List.mem_of_getElem? (i := 3) rfl) rfl dX7_minimal_60 ?_
                refine lv_iload_n C.1 C.2.1 dX7_minimal_63 rfl (lv_at hl 2 rfl) ?_
                refine x_iald C Z 13 rfl (by decide) q120 dX7_minimal_64 ?_
                refine x_iconst C dX7_minimal_65 ?_
                refine x_iadd C dX7_minimal_66 ?_
                refine lv_iload_n C.1 C.2.1 dX7_minimal_67 rfl (lv_at hl 3 rfl) ?_
                refine x_iconst C dX7_minimal_68 ?_
                refine x_isub C dX7_minimal_69 ?_
                obtain ⟨r137, hr137, h138⟩ := bd_some h133
                clear h133
                refine x_callV_i_id (As := [.int (iI ((r3.sorted z12.2) + 1)), .int (iI (z31.2 - 1))]) (rest := []) (q0 := 0) C Z (k_X7_nextOf l g n aM sMv sMp r1 r3 sMc sMr ((r3.sorted z12.2) + 1) (z31.2 - 1) r137 hr137) gX7_minimal_X7_nextOf yk_X7_nextOf ⟨Nat.le_of_ble_eq_true rfl, Nat.le_of_ble_eq_true rfl⟩ rfl rfl ⟨Nat.zero_le _, Nat.zero_le _⟩ hl.1 rfl (Nat.le_of_ble_eq_true rfl) rfl dX7_minimal_70 (fun H locs Z => ?_)
                exact hJ73 z31.1 z31.2 r137 _ _ _ h138 Z (lv_sub hl [0, 1, 2, 3] rfl)
              · have h134 := if_p h130 c132
                clear h130
                refine lv_aload_n C.1 C.2.1 dX7_minimal_51 rfl (lv_at hl 0 rfl) ?_
                obtain ⟨r139, hr139, h140⟩ := bd_some h134
                clear h134
                refine x_callV_i_id (As := []) (rest := []) (q0 := 0) C Z (k_X7_lettersOfAll l g n aM sMv sMp r1 r3 sMc sMr r139 hr139) gX7_minimal_X7_lettersOfAll yk_X7_lettersOfAll ⟨Nat.le_of_ble_eq_true rfl, Nat.le_of_ble_eq_true rfl⟩ rfl rfl ⟨Nat.zero_le _, Nat.zero_le _⟩ hl.1 rfl (Nat.le_of_ble_eq_true rfl) rfl dX7_minimal_52 (fun H locs Z => ?_)
                refine lv_goto (tgt := 73) C.1 C.2.1 dX7_minimal_55 (by decide) ?_
                exact hJ73 z31.1 z31.2 r139 _ _ _ h140 Z (lv_sub hl [0, 1, 2, 3] rfl)
        exact hL31 n (z12.1, (r3.near z12.2) + 1) _ _ _ hl31 Z (lv_sub hl [1, 2, 3, 0] rfl)
  exact hL12 n (0, 0) _ _ _ hl12 Z (lv_sub hl [2, 1, 0] rfl)
abbrev rmX7_allSteps : Room := { frames := 4, cells := 0, slots := 0, locals := 95 }
theorem yk_X7_allSteps : xY yX7_allSteps RX7 cX7_allSteps 3 (some .int) wsX7_allSteps rmX7_allSteps 0 := ⟨⟨_, rfl⟩, by decide +kernel, rfl, rfl⟩
theorem i_X7_X7_allSteps : ∀ w ∈ u_ws RX7 TX7 23, w ∈ wsX7_allSteps := fun _ h => List.mem_cons_of_mem _ (List.mem_append_right _ h)
set_option maxHeartbeats 4000000 in
set_option maxRecDepth 100000 in
theorem k_X7_allSteps (l : Launch) (g : xG) (n : Nat) (aM : Nat → Nat) (sMv : MvS) (sMp : MpS) (sMt : MtS) (sMs : MsS) (sMc : McS) (sMr : MrS) (r : Int) (hf : p_X7_allSteps n sMt sMc = some r) : xMi l yX7_allSteps wsX7_allSteps rmX7_allSteps g [.ref (aM 0)] (wM g aM sMv sMp sMt sMs sMc sMr) (wM g aM sMv sMp sMt sMs sMc sMr) r := by
  refine x_ofW_i (own := RX7) (by decide) rfl rfl (Nat.le_of_ble_eq_true rfl) ?_
  intro p e s m args below meth c ls A QQ C hRet Z hl
  have hl : lv_has ls 3 [(0, .ref (aM 0))] := hl
  unfold p_X7_allSteps at hf
  refine lv_aload_n C.1 C.2.1 dX7_allSteps_0 rfl (lv_at hl 0 rfl) ?_
  obtain ⟨r1, hr1, h2⟩ := bd_some hf
  clear hf
  refine x_callV_i_id (As := []) (rest := []) (q0 := 0) C Z (k_X7_lettersOfAll l g n aM sMv sMp sMt sMs sMc sMr r1 hr1) gX7_allSteps_X7_lettersOfAll yk_X7_lettersOfAll ⟨Nat.le_of_ble_eq_true rfl, Nat.le_of_ble_eq_true rfl⟩ rfl rfl ⟨Nat.zero_le _, Nat.zero_le _⟩ hl.1 rfl (Nat.le_of_ble_eq_true rfl) rfl dX7_allSteps_1 (fun H locs Z => ?_)
  obtain ⟨r3, hr3, h4⟩ := bd_some h2
  clear h2
  refine x_callS_i (As := [.int (iI r1)]) (rest := []) C Z (k_X7_sizeOf l g n r1 r3 hr3) gX7_allSteps_X7_sizeOf yk_X7_sizeOf ⟨Nat.le_of_ble_eq_true rfl, Nat.le_of_ble_eq_true rfl⟩ ⟨Nat.zero_le _, Nat.zero_le _⟩ hl.1 rfl (Nat.le_of_ble_eq_true rfl) rfl dX7_allSteps_4 (fun H locs Z => ?_)
  refine lv_istore_n (lv' := [(1, .int (iI r3)), (0, .ref (aM 0))]) C.1 C.2.1 dX7_allSteps_7 rfl hl (by decide) rfl (fun ls hl => ?_)
  refine x_iconst C dX7_allSteps_8 ?_
  refine lv_istore_n (lv' := [(2, .int (iI 0)), (1, .int (iI r3)), (0, .ref (aM 0))]) C.1 C.2.1 dX7_allSteps_9 rfl hl (by decide) rfl (fun ls hl => ?_)
  obtain ⟨ex10, hl10, h37⟩ := bd_some h4
  clear h4
  have hK10 : ∀ (H : Heap) (locs : List Loc) (ls : Array Slot), xSt g A s (wM g aM sMv sMp sMt sMs sMc sMr) H locs → lv_has ls 3 [(1, .int (iI ex10))] → W p l e rmX7_allSteps s m args below meth c H locs 0 0 QQ (F0 m 45 ls []) := by
    intro H locs ls Z hl
    have h38 := h37
    clear h37
    refine lv_iload_n C.1 C.2.1 dX7_allSteps_45 rfl (lv_at hl 0 rfl) ?_
    have h39 := Option.some.inj h38
    subst h39
    exact hRet _ _ _ _ Z dX7_allSteps_46
  have hL10 : ∀ (k10 : Nat) (z10 : Int × Int) (H : Heap) (locs : List Loc) (ls : Array Slot), lp (p_X7_allSteps_b10 n sMt sMc) k10 z10 = some ex10 → xSt g A s (wM g aM sMv sMp sMt sMs sMc sMr) H locs → lv_has ls 3 [(0, .ref (aM 0)), (1, .int (iI z10.1)), (2, .int (iI z10.2))] → W p l e rmX7_allSteps s m args below meth c H locs 0 0 QQ (F0 m 10 ls []) := by
    intro k10
    induction k10 with
    | zero => intro z10 H locs ls h; exact (lp_0 h).elim
    | succ k10 ih10 =>
      intro z10 H locs ls h Z hl
      obtain ⟨x10, hb10, hx10⟩ := lp_s h
      clear h
      unfold p_X7_allSteps_b10 at hb10
      refine lv_iload_n C.1 C.2.1 dX7_allSteps_10 rfl (lv_at hl 2 rfl) ?_
      refine lv_aload_n C.1 C.2.1 dX7_allSteps_11 rfl (lv_at hl 0 rfl) ?_
      refine x_get C Z 0 rfl rfl i_X7_X7_allSteps (k := 21) (by decide) (List.mem_of_getElem? (i := 1) rfl) rfl dX7_allSteps_12 ?_
      have q21 := (ck_some hb10).1
      have h22 := (ck_some hb10).2
      clear hb10
      have q23 := (ck_some h22).1
      have h24 := (ck_some h22).2
      clear h22
      refine x_icmp_ge (tgt := 45) C dX7_allSteps_15 (by decide) q21 q23 (fun c25 => ?_) (fun c25 => ?_)
      · have h26 := if_n h24 c25
        clear h24
        cases h26
        have h28 := lp_R hx10
        subst h28
        exact hK10 _ _ _ Z (lv_sub hl [1] rfl)
      · have h27 := if_p h24 c25
        clear h24
        refine lv_iload_n C.1 C.2.1 dX7_allSteps_18 rfl (lv_at hl 1 rfl) ?_
        refine lv_aload_n C.1 C.2.1 dX7_allSteps_19 rfl (lv_at hl 0 rfl) ?_
        refine lv_aload_n C.1 C.2.1 dX7_allSteps_20 rfl (lv_at hl 0 rfl) ?_
        refine lv_iload_n C.1 C.2.1 dX7_allSteps_21 rfl (lv_at hl 2 rfl) ?_
        obtain ⟨r29, hr29, h30⟩ := bd_some h27
        clear h27
        refine x_callV_i_id (As := [.int (iI z10.2)]) (rest := [.ref (aM 0), .int (iI z10.1)]) (q0 := 0) C Z (k_X7_firstOf l g n aM sMv sMp sMt sMs sMc sMr z10.2 r29 hr29) gX7_allSteps_X7_firstOf yk_X7_firstOf ⟨Nat.le_of_ble_eq_true rfl, Nat.le_of_ble_eq_true rfl⟩ rfl rfl ⟨Nat.zero_le _, Nat.zero_le _⟩ hl.1 rfl (Nat.le_of_ble_eq_true rfl) rfl dX7_allSteps_22 (fun H locs Z => ?_)
        refine lv_aload_n C.1 C.2.1 dX7_allSteps_25 rfl (lv_at hl 0 rfl) ?_
        refine x_get C Z 0 rfl rfl i_X7_X7_allSteps (k := 19) (by decide) (List.mem_of_getElem? (i := 2) rfl) rfl dX7_allSteps_26 ?_
        refine lv_iload_n C.1 C.2.1 dX7_allSteps_29 rfl (lv_at hl 2 rfl) ?_
        have q31 := (ix_some h30).1
        have h32 := (ix_some h30).2
        clear h30
        refine x_iald C Z 17 rfl (by decide) q31 dX7_allSteps_30 ?_
        obtain ⟨r33, hr33, h34⟩ := bd_some h32
        clear h32
        refine x_callV_i_id (As := [.int (iI r29), .int (iI (sMc.classLong z10.2))]) (rest := [.int (iI z10.1)]) (q0 := 0) C Z (k_X7_nextOf l g n aM sMv sMp sMt sMs sMc sMr r29 (sMc.classLong z10.2) r33 hr33) gX7_allSteps_X7_nextOf yk_X7_nextOf ⟨Nat.le_of_ble_eq_true rfl, Nat.le_of_ble_eq_true rfl⟩ rfl rfl ⟨Nat.zero_le _, Nat.zero_le _⟩ hl.1 rfl (Nat.le_of_ble_eq_true rfl) rfl dX7_allSteps_31 (fun H locs Z => ?_)
        obtain ⟨r35, hr35, h36⟩ := bd_some h34
        clear h34
        refine x_callS_i (As := [.int (iI r33)]) (rest := [.int (iI z10.1)]) C Z (k_X7_sizeOf l g n r33 r35 hr35) gX7_allSteps_X7_sizeOf yk_X7_sizeOf ⟨Nat.le_of_ble_eq_true rfl, Nat.le_of_ble_eq_true rfl⟩ ⟨Nat.zero_le _, Nat.zero_le _⟩ hl.1 rfl (Nat.le_of_ble_eq_true rfl) rfl dX7_allSteps_34 (fun H locs Z => ?_)
        refine x_iadd C dX7_allSteps_37 ?_
        refine lv_istore_n (lv' := [(1, .int (iI (z10.1 + r35))), (0, .ref (aM 0)), (2, .int (iI z10.2))]) C.1 C.2.1 dX7_allSteps_38 rfl hl (by decide) rfl (fun ls hl => ?_)
        refine x_iinc (lv' := [(2, .int (iI (z10.2 + 1))), (1, .int (iI (z10.1 + r35))), (0, .ref (aM 0))]) C dX7_allSteps_39 hl (k := 2) rfl (by decide) rfl (fun ls hl => ?_)
        refine lv_goto (tgt := 10) C.1 C.2.1 dX7_allSteps_42 (by decide) ?_
        cases h36
        exact ih10 (z10.1 + r35, z10.2 + 1) _ _ _ (lp_L2 hx10) Z (lv_sub hl [2, 1, 0] rfl)
  exact hL10 n (r3, 0) _ _ _ hl10 Z (lv_sub hl [2, 1, 0] rfl)
abbrev rmX7_longestTwice : Room := { frames := 0, cells := 0, slots := 0, locals := 0 }
theorem yk_X7_longestTwice : xY yX7_longestTwice RX7 cX7_longestTwice 3 (some .int) wsX7_longestTwice rmX7_longestTwice 0 := ⟨⟨_, rfl⟩, by decide +kernel, rfl, rfl⟩
theorem i_X7_X7_longestTwice : ∀ w ∈ u_ws RX7 TX7 23, w ∈ wsX7_longestTwice := fun _ h => List.mem_cons_of_mem _ (List.mem_append_right _ h)
set_option maxHeartbeats 4000000 in
set_option maxRecDepth 100000 in
theorem k_X7_longestTwice (l : Launch) (g : xG) (n : Nat) (aM : Nat → Nat) (sMv : MvS) (sMp : MpS) (sMt : MtS) (sMs : MsS) (sMc : McS) (sMr : MrS) (r : Int) (hf : p_X7_longestTwice n sMt sMs = some r) : xMi l yX7_longestTwice wsX7_longestTwice rmX7_longestTwice g [.ref (aM 0)] (wM g aM sMv sMp sMt sMs sMc sMr) (wM g aM sMv sMp sMt sMs sMc sMr) r := by
  refine x_ofW_i (own := RX7) (by decide) rfl rfl (Nat.le_of_ble_eq_true rfl) ?_
  intro p e s m args below meth c ls A QQ C hRet Z hl
  have hl : lv_has ls 3 [(0, .ref (aM 0))] := hl
  unfold p_X7_longestTwice at hf
  refine x_iconst C dX7_longestTwice_0 ?_
  refine lv_istore_n (lv' := [(1, .int (iI 0)), (0, .ref (aM 0))]) C.1 C.2.1 dX7_longestTwice_1 rfl hl (by decide) rfl (fun ls hl => ?_)
  refine x_iconst C dX7_longestTwice_2 ?_
  refine lv_istore_n (lv' := [(2, .int (iI 0)), (1, .int (iI 0)), (0, .ref (aM 0))]) C.1 C.2.1 dX7_longestTwice_3 rfl hl (by decide) rfl (fun ls hl => ?_)
  obtain ⟨ex4, hl4, h43⟩ := bd_some hf
  clear hf
  have hK4 : ∀ (H : Heap) (locs : List Loc) (ls : Array Slot), xSt g A s (wM g aM sMv sMp sMt sMs sMc sMr) H locs → lv_has ls 3 [(1, .int (iI ex4))] → W p l e rmX7_longestTwice s m args below meth c H locs 0 0 QQ (F0 m 41 ls []) := by
    intro H locs ls Z hl
    have h44 := h43
    clear h43
    refine lv_iload_n C.1 C.2.1 dX7_longestTwice_41 rfl (lv_at hl 0 rfl) ?_
    have h45 := Option.some.inj h44
    subst h45
    exact hRet _ _ _ _ Z dX7_longestTwice_42
  have hL4 : ∀ (k4 : Nat) (z4 : Int × Int) (H : Heap) (locs : List Loc) (ls : Array Slot), lp (p_X7_longestTwice_b4 n sMt sMs) k4 z4 = some ex4 → xSt g A s (wM g aM sMv sMp sMt sMs sMc sMr) H locs → lv_has ls 3 [(0, .ref (aM 0)), (1, .int (iI z4.1)), (2, .int (iI z4.2))] → W p l e rmX7_longestTwice s m args below meth c H locs 0 0 QQ (F0 m 4 ls []) := by
    intro k4
    induction k4 with
    | zero => intro z4 H locs ls h; exact (lp_0 h).elim
    | succ k4 ih4 =>
      intro z4 H locs ls h Z hl
      obtain ⟨x4, hb4, hx4⟩ := lp_s h
      clear h
      unfold p_X7_longestTwice_b4 at hb4
      refine lv_iload_n C.1 C.2.1 dX7_longestTwice_4 rfl (lv_at hl 2 rfl) ?_
      refine lv_aload_n C.1 C.2.1 dX7_longestTwice_5 rfl (lv_at hl 0 rfl) ?_
      refine x_get C Z 0 rfl rfl i_X7_X7_longestTwice (k := 12) (by decide) (List.mem_of_getElem? (i := 1) rfl) rfl dX7_longestTwice_6 ?_
      refine x_iconst C dX7_longestTwice_9 ?_
      refine x_iald C Z 10 rfl (by decide) (by decide) dX7_longestTwice_10 ?_
      have q24 := (ck_some hb4).1
      have h25 := (ck_some hb4).2
      clear hb4
      have q26 := (ck_some h25).1
      have h27 := (ck_some h25).2
      clear h25
      refine x_icmp_ge (tgt := 41) C dX7_longestTwice_11 (by decide) q24 q26 (fun c28 => ?_) (fun c28 => ?_)
      · have h29 := if_n h27 c28
        clear h27
        cases h29
        have h31 := lp_R hx4
        subst h31
        exact hK4 _ _ _ Z (lv_sub hl [1] rfl)
      · have h30 := if_p h27 c28
        clear h27
        refine lv_aload_n C.1 C.2.1 dX7_longestTwice_14 rfl (lv_at hl 0 rfl) ?_
        refine x_get C Z 0 rfl rfl i_X7_X7_longestTwice (k := 16) (by decide) (List.mem_of_getElem? (i := 2) rfl) rfl dX7_longestTwice_15 ?_
        refine lv_iload_n C.1 C.2.1 dX7_longestTwice_18 rfl (lv_at hl 2 rfl) ?_
        have q32 := (ix_some h30).1
        have h33 := (ix_some h30).2
        clear h30
        refine x_iald C Z 14 rfl (by decide) q32 dX7_longestTwice_19 ?_
        refine lv_iload_n C.1 C.2.1 dX7_longestTwice_20 rfl (lv_at hl 1 rfl) ?_
        have q34 := (ck_some h33).1
        have h35 := (ck_some h33).2
        clear h33
        have q36 := (ck_some h35).1
        have h37 := (ck_some h35).2
        clear h35
        refine x_icmp_le (tgt := 33) C dX7_longestTwice_21 (by decide) q34 q36 (fun c38 => ?_) (fun c38 => ?_)
        · have h39 := if_n h37 c38
          clear h37
          refine lv_iload_n C.1 C.2.1 dX7_longestTwice_33 rfl (lv_at hl 1 rfl) ?_
          refine lv_istore_n (lv' := [(1, .int (iI z4.1)), (0, .ref (aM 0)), (2, .int (iI z4.2))]) C.1 C.2.1 dX7_longestTwice_34 rfl hl (by decide) rfl (fun ls hl => ?_)
          refine x_iinc (lv' := [(2, .int (iI (z4.2 + 1))), (1, .int (iI z4.1)), (0, .ref (aM 0))]) C dX7_longestTwice_35 hl (k := 2) rfl (by decide) rfl (fun ls hl => ?_)
          refine lv_goto (tgt := 4) C.1 C.2.1 dX7_longestTwice_38 (by decide) ?_
          cases h39
          exact ih4 (z4.1, z4.2 + 1) _ _ _ (lp_L2 hx4) Z (lv_sub hl [2, 1, 0] rfl)
        · have h40 := if_p h37 c38
          clear h37
          refine lv_aload_n C.1 C.2.1 dX7_longestTwice_24 rfl (lv_at hl 0 rfl) ?_
          refine x_get C Z 0 rfl rfl i_X7_X7_longestTwice (k := 16) (by decide) (List.mem_of_getElem? (i := 2) rfl) rfl dX7_longestTwice_25 ?_
          refine lv_iload_n C.1 C.2.1 dX7_longestTwice_28 rfl (lv_at hl 2 rfl) ?_
          refine x_iald C Z 14 rfl (by decide) q32 dX7_longestTwice_29 ?_
          refine lv_goto (tgt := 34) C.1 C.2.1 dX7_longestTwice_30 (by decide) ?_
          refine lv_istore_n (lv' := [(1, .int (iI (sMs.near z4.2))), (0, .ref (aM 0)), (2, .int (iI z4.2))]) C.1 C.2.1 dX7_longestTwice_34 rfl hl (by decide) rfl (fun ls hl => ?_)
          refine x_iinc (lv' := [(2, .int (iI (z4.2 + 1))), (1, .int (iI (sMs.near z4.2))), (0, .ref (aM 0))]) C dX7_longestTwice_35 hl (k := 2) rfl (by decide) rfl (fun ls hl => ?_)
          refine lv_goto (tgt := 4) C.1 C.2.1 dX7_longestTwice_38 (by decide) ?_
          cases h40
          exact ih4 (sMs.near z4.2, z4.2 + 1) _ _ _ (lp_L2 hx4) Z (lv_sub hl [2, 1, 0] rfl)
  exact hL4 n (0, 0) _ _ _ hl4 Z (lv_sub hl [2, 1, 0] rfl)
abbrev rmX7_count : Room := { frames := 5, cells := 0, slots := 0, locals := 120 }
theorem yk_X7_count : xY yX7_count RX7 cX7_count 2 (some .int) wsX7_count rmX7_count 1 := ⟨⟨_, rfl⟩, by decide +kernel, rfl, rfl⟩
theorem i_X7_X7_count : ∀ w ∈ u_ws RX7 TX7 23, w ∈ wsX7_count := fun _ h => List.mem_cons_of_mem _ (List.mem_append_right _ h)
set_option maxHeartbeats 4000000 in
set_option maxRecDepth 100000 in
theorem k_X7_count (l : Launch) (g : xG) (n : Nat) (aM : Nat → Nat) (sMv : MvS) (sMp : MpS) (sMt : MtS) (sMs : MsS) (sMc : McS) (sMr : MrS) (v1 : Int) (r : Int × MtS × MsS × McS) (hf : p_X7_count n sMv sMt sMs sMc v1 = some r) : xMi l yX7_count wsX7_count rmX7_count g [.ref (aM 0), .int (iI v1)] (wM g aM sMv sMp sMt sMs sMc sMr) (wM g aM sMv sMp r.2.1 r.2.2.1 r.2.2.2 sMr) r.1 := by
  refine x_ofW_i (own := RX7) (by decide) rfl rfl (Nat.le_of_ble_eq_true rfl) ?_
  intro p e s m args below meth c ls A QQ C hRet Z hl
  have hl : lv_has ls 2 [(0, .ref (aM 0)), (1, .int (iI v1))] := hl
  unfold p_X7_count at hf
  refine lv_iload_n C.1 C.2.1 dX7_count_0 rfl (lv_at hl 1 rfl) ?_
  refine x_iconst C dX7_count_1 ?_
  refine x_bipush C dX7_count_2 (by decide) ?_
  obtain ⟨r1, hr1, h2⟩ := bd_some hf
  clear hf
  refine x_callS_i (As := [.int (iI v1), .int (iI 0), .int (iI 6)]) (rest := []) C Z (k_X7_in l g n v1 0 6 r1 hr1) gX7_count_X7_in yk_X7_in ⟨Nat.le_of_ble_eq_true rfl, Nat.le_of_ble_eq_true rfl⟩ ⟨Nat.zero_le _, Nat.zero_le _⟩ hl.1 rfl (Nat.le_of_ble_eq_true rfl) rfl dX7_count_4 (fun H locs Z => ?_)
  have q3 := (ck_some h2).1
  have h4 := (ck_some h2).2
  clear h2
  refine x_if_ne (tgt := 13) C dX7_count_7 (by decide) q3 (fun c5 => ?_) (fun c5 => ?_)
  · have h6 := if_n h4 c5
    clear h4
    refine lv_aload_n C.1 C.2.1 dX7_count_13 rfl (lv_at hl 0 rfl) ?_
    obtain ⟨r8, hr8, h9⟩ := bd_some h6
    clear h6
    refine x_callV_v_id (As := []) (rest := []) (q0 := 0) C Z (k_X7_layPresent l g n aM sMv sMp sMt sMs sMc sMr r8 hr8) gX7_count_X7_layPresent yk_X7_layPresent ⟨Nat.le_of_ble_eq_true rfl, Nat.le_of_ble_eq_true rfl⟩ rfl rfl ⟨Nat.zero_le _, Nat.zero_le _⟩ hl.1 rfl (Nat.le_of_ble_eq_true rfl) rfl dX7_count_14 (fun H locs Z => ?_)
    refine lv_aload_n C.1 C.2.1 dX7_count_17 rfl (lv_at hl 0 rfl) ?_
    obtain ⟨r10, hr10, h11⟩ := bd_some h9
    clear h9
    refine x_callV_v_id (As := []) (rest := []) (q0 := 0) C Z (k_X7_sort l g n aM sMv sMp r8 sMs sMc sMr r10 hr10) gX7_count_X7_sort yk_X7_sort ⟨Nat.le_of_ble_eq_true rfl, Nat.le_of_ble_eq_true rfl⟩ rfl rfl ⟨Nat.zero_le _, Nat.zero_le _⟩ hl.1 rfl (Nat.le_of_ble_eq_true rfl) rfl dX7_count_18 (fun H locs Z => ?_)
    refine lv_iload_n C.1 C.2.1 dX7_count_21 rfl (lv_at hl 1 rfl) ?_
    have q12 := (ck_some h11).1
    have h13 := (ck_some h11).2
    clear h11
    by_cases c14 : v1 = 0
    · have h15 := if_p h13 c14
      clear h13
      refine x_tin (tgt := 60) C dX7_count_22 q12 c14 (by decide) (by decide) (by rfl) (by decide) ?_
      refine lv_aload_n C.1 C.2.1 dX7_count_60 rfl (lv_at hl 0 rfl) ?_
      refine x_get C Z 0 rfl rfl i_X7_X7_count (k := 5) (by decide) (List.mem_of_getElem? (i := 1) rfl) rfl dX7_count_61 ?_
      have h17 := Option.some.inj h15
      subst h17
      exact hRet _ _ _ _ Z dX7_count_64
    have h16 := if_n h13 c14
    clear h13
    by_cases c18 : v1 = 1
    · have h19 := if_p h16 c18
      clear h16
      refine x_tin (tgt := 65) C dX7_count_22 q12 c18 (by decide) (by decide) (by rfl) (by decide) ?_
      refine lv_aload_n C.1 C.2.1 dX7_count_65 rfl (lv_at hl 0 rfl) ?_
      refine x_get C Z 0 rfl rfl i_X7_X7_count (k := 4) (by decide) (List.mem_of_getElem? (i := 2) rfl) rfl dX7_count_66 ?_
      have h21 := Option.some.inj h19
      subst h21
      exact hRet _ _ _ _ Z dX7_count_69
    have h20 := if_n h16 c18
    clear h16
    by_cases c22 : v1 = 2
    · have h23 := if_p h20 c22
      clear h20
      refine x_tin (tgt := 70) C dX7_count_22 q12 c22 (by decide) (by decide) (by rfl) (by decide) ?_
      refine lv_aload_n C.1 C.2.1 dX7_count_70 rfl (lv_at hl 0 rfl) ?_
      refine x_get C Z 0 rfl rfl i_X7_X7_count (k := 2) (by decide) (List.mem_of_getElem? (i := 3) rfl) rfl dX7_count_71 ?_
      refine lv_aload_n C.1 C.2.1 dX7_count_74 rfl (lv_at hl 0 rfl) ?_
      refine x_get C Z 0 rfl rfl i_X7_X7_count (k := 5) (by decide) (List.mem_of_getElem? (i := 1) rfl) rfl dX7_count_75 ?_
      have q25 := (ix_some h23).1
      have h26 := (ix_some h23).2
      clear h23
      refine x_iald C Z 3 rfl (by decide) q25 dX7_count_78 ?_
      have h27 := Option.some.inj h26
      subst h27
      exact hRet _ _ _ _ Z dX7_count_79
    have h24 := if_n h20 c22
    clear h20
    by_cases c28 : v1 = 3
    · have h29 := if_p h24 c28
      clear h24
      refine x_tin (tgt := 80) C dX7_count_22 q12 c28 (by decide) (by decide) (by rfl) (by decide) ?_
      refine lv_aload_n C.1 C.2.1 dX7_count_80 rfl (lv_at hl 0 rfl) ?_
      refine x_get C Z 0 rfl rfl i_X7_X7_count (k := 3) (by decide) (List.mem_of_getElem? (i := 4) rfl) rfl dX7_count_81 ?_
      refine lv_aload_n C.1 C.2.1 dX7_count_84 rfl (lv_at hl 0 rfl) ?_
      refine x_get C Z 0 rfl rfl i_X7_X7_count (k := 5) (by decide) (List.mem_of_getElem? (i := 1) rfl) rfl dX7_count_85 ?_
      have q31 := (ix_some h29).1
      have h32 := (ix_some h29).2
      clear h29
      refine x_iald C Z 4 rfl (by decide) q31 dX7_count_88 ?_
      have h33 := Option.some.inj h32
      subst h33
      exact hRet _ _ _ _ Z dX7_count_89
    have h30 := if_n h24 c28
    clear h24
    by_cases c34 : v1 = 4
    · have h35 := if_p h30 c34
      clear h30
      refine x_tin (tgt := 90) C dX7_count_22 q12 c34 (by decide) (by decide) (by rfl) (by decide) ?_
      refine lv_aload_n C.1 C.2.1 dX7_count_90 rfl (lv_at hl 0 rfl) ?_
      obtain ⟨r37, hr37, h38⟩ := bd_some h35
      clear h35
      refine x_callV_v_id (As := []) (rest := []) (q0 := 0) C Z (k_X7_layClasses l g n aM sMv sMp r8 r10 sMc sMr r37 hr37) gX7_count_X7_layClasses yk_X7_layClasses ⟨Nat.le_of_ble_eq_true rfl, Nat.le_of_ble_eq_true rfl⟩ rfl rfl ⟨Nat.zero_le _, Nat.zero_le _⟩ hl.1 rfl (Nat.le_of_ble_eq_true rfl) rfl dX7_count_91 (fun H locs Z => ?_)
      refine lv_aload_n C.1 C.2.1 dX7_count_94 rfl (lv_at hl 0 rfl) ?_
      refine x_get C Z 0 rfl rfl i_X7_X7_count (k := 21) (by decide) (List.mem_of_getElem? (i := 5) rfl) rfl dX7_count_95 ?_
      have h39 := Option.some.inj h38
      subst h39
      exact hRet _ _ _ _ Z dX7_count_98
    have h36 := if_n h30 c34
    clear h30
    by_cases c40 : v1 = 5
    · have h41 := if_p h36 c40
      clear h36
      refine x_tin (tgt := 99) C dX7_count_22 q12 c40 (by decide) (by decide) (by rfl) (by decide) ?_
      refine lv_aload_n C.1 C.2.1 dX7_count_99 rfl (lv_at hl 0 rfl) ?_
      obtain ⟨r43, hr43, h44⟩ := bd_some h41
      clear h41
      refine x_callV_v_id (As := []) (rest := []) (q0 := 0) C Z (k_X7_layClasses l g n aM sMv sMp r8 r10 sMc sMr r43 hr43) gX7_count_X7_layClasses yk_X7_layClasses ⟨Nat.le_of_ble_eq_true rfl, Nat.le_of_ble_eq_true rfl⟩ rfl rfl ⟨Nat.zero_le _, Nat.zero_le _⟩ hl.1 rfl (Nat.le_of_ble_eq_true rfl) rfl dX7_count_100 (fun H locs Z => ?_)
      refine lv_aload_n C.1 C.2.1 dX7_count_103 rfl (lv_at hl 0 rfl) ?_
      obtain ⟨r45, hr45, h46⟩ := bd_some h44
      clear h44
      refine x_callV_i_id (As := []) (rest := []) (q0 := 0) C Z (k_X7_allSteps l g n aM sMv sMp r8 r10 r43 sMr r45 hr45) gX7_count_X7_allSteps yk_X7_allSteps ⟨Nat.le_of_ble_eq_true rfl, Nat.le_of_ble_eq_true rfl⟩ rfl rfl ⟨Nat.zero_le _, Nat.zero_le _⟩ hl.1 rfl (Nat.le_of_ble_eq_true rfl) rfl dX7_count_104 (fun H locs Z => ?_)
      have h47 := Option.some.inj h46
      subst h47
      exact hRet _ _ _ _ Z dX7_count_107
    have h42 := if_n h36 c40
    clear h36
    refine x_tout (tgt := 108) C dX7_count_22 q12 (by omega) (by decide) ?_
    refine lv_aload_n C.1 C.2.1 dX7_count_108 rfl (lv_at hl 0 rfl) ?_
    obtain ⟨r48, hr48, h49⟩ := bd_some h42
    clear h42
    refine x_callV_i_id (As := []) (rest := []) (q0 := 0) C Z (k_X7_longestTwice l g n aM sMv sMp r8 r10 sMc sMr r48 hr48) gX7_count_X7_longestTwice yk_X7_longestTwice ⟨Nat.le_of_ble_eq_true rfl, Nat.le_of_ble_eq_true rfl⟩ rfl rfl ⟨Nat.zero_le _, Nat.zero_le _⟩ hl.1 rfl (Nat.le_of_ble_eq_true rfl) rfl dX7_count_109 (fun H locs Z => ?_)
    have h50 := Option.some.inj h49
    subst h50
    exact hRet _ _ _ _ Z dX7_count_112
  · have h7 := if_p h4 c5
    clear h4
    refine x_bipush C dX7_count_10 (by decide) ?_
    have h51 := Option.some.inj h7
    subst h51
    exact hRet _ _ _ _ Z dX7_count_12
