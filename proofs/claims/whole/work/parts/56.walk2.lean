abbrev rmX7_classAt : Room := { frames := 4, cells := 0, slots := 0, locals := 94 }
theorem yk_X7_classAt : xY yX7_classAt RX7 cX7_classAt 5 (some .int) wsX7_classAt rmX7_classAt 2 := ⟨⟨_, rfl⟩, by decide +kernel, rfl, rfl⟩
theorem i_X7_X7_classAt : ∀ w ∈ u_ws RX7 TX7 23, w ∈ wsX7_classAt := fun _ h => List.mem_cons_of_mem _ (List.mem_append_right _ h)
set_option maxHeartbeats 4000000 in
set_option maxRecDepth 100000 in
theorem k_X7_classAt (l : Launch) (g : xG) (n : Nat) (aM : Nat → Nat) (sMv : MvS) (sMp : MpS) (sMt : MtS) (sMs : MsS) (sMc : McS) (sMr : MrS) (v1 : Int) (v2 : Int) (r : Int) (hf : p_X7_classAt n sMt sMc v1 v2 = some r) : xMi l yX7_classAt wsX7_classAt rmX7_classAt g [.ref (aM 0), .int (iI v1), .int (iI v2)] (wM g aM sMv sMp sMt sMs sMc sMr) (wM g aM sMv sMp sMt sMs sMc sMr) r := by
  refine x_ofW_i (own := RX7) (by decide) rfl rfl (Nat.le_of_ble_eq_true rfl) ?_
  intro p e s m args below meth c ls A QQ C hRet Z hl
  have hl : lv_has ls 5 [(0, .ref (aM 0)), (1, .int (iI v1)), (2, .int (iI v2))] := hl
  unfold p_X7_classAt at hf
  refine lv_aload_n C.1 C.2.1 dX7_classAt_0 rfl (lv_at hl 0 rfl) ?_
  refine lv_iload_n C.1 C.2.1 dX7_classAt_1 rfl (lv_at hl 1 rfl) ?_
  refine lv_iload_n C.1 C.2.1 dX7_classAt_2 rfl (lv_at hl 2 rfl) ?_
  obtain ⟨r1, hr1, h2⟩ := bd_some hf
  clear hf
  refine x_callV_i_id (As := [.int (iI v1), .int (iI v2)]) (rest := []) (q0 := 0) C Z (k_X7_firstPlace l g n aM sMv sMp sMt sMs sMc sMr v1 v2 r1 hr1) gX7_classAt_X7_firstPlace yk_X7_firstPlace ⟨Nat.le_of_ble_eq_true rfl, Nat.le_of_ble_eq_true rfl⟩ rfl rfl ⟨Nat.zero_le _, Nat.zero_le _⟩ hl.1 rfl (Nat.le_of_ble_eq_true rfl) rfl dX7_classAt_3 (fun H locs Z => ?_)
  refine lv_iload_n C.1 C.2.1 dX7_classAt_6 rfl (lv_at hl 2 rfl) ?_
  refine x_iadd C dX7_classAt_7 ?_
  refine x_iconst C dX7_classAt_8 ?_
  refine x_isub C dX7_classAt_9 ?_
  refine lv_istore_n (lv' := [(3, .int (iI ((r1 + v2) - 1))), (0, .ref (aM 0)), (1, .int (iI v1)), (2, .int (iI v2))]) C.1 C.2.1 dX7_classAt_10 rfl hl (by decide) rfl (fun ls hl => ?_)
  refine x_iconst C dX7_classAt_11 ?_
  refine lv_istore (lv' := [(4, .int (iI 0)), (3, .int (iI ((r1 + v2) - 1))), (0, .ref (aM 0)), (1, .int (iI v1)), (2, .int (iI v2))]) C.1 C.2.1 dX7_classAt_12 hl (by decide) rfl (fun ls hl => ?_)
  obtain ⟨ex14, hl14, h63⟩ := bd_some h2
  clear h2
  have hK14 : ∀ (e14 : Unit) (H : Heap) (locs : List Loc) (ls : Array Slot), ex14 = .inr e14 → xSt g A s (wM g aM sMv sMp sMt sMs sMc sMr) H locs → lv_has ls 5 [] → W p l e rmX7_classAt s m args below meth c H locs 0 0 QQ (F0 m 64 ls []) := by
    intro e14 H locs ls he Z hl
    subst he
    have h64 := (Sum.elim_inr ..).symm.trans h63
    clear h63
    refine x_bipush C dX7_classAt_64 (by decide) ?_
    have h65 := Option.some.inj h64
    subst h65
    exact hRet _ _ _ _ Z dX7_classAt_66
  have hL14 : ∀ (k14 : Nat) (z14 : Int) (H : Heap) (locs : List Loc) (ls : Array Slot), lp (p_X7_classAt_b14 n sMc v2 ((r1 + v2) - 1)) k14 z14 = some ex14 → xSt g A s (wM g aM sMv sMp sMt sMs sMc sMr) H locs → lv_has ls 5 [(0, .ref (aM 0)), (2, .int (iI v2)), (3, .int (iI ((r1 + v2) - 1))), (4, .int (iI z14))] → W p l e rmX7_classAt s m args below meth c H locs 0 0 QQ (F0 m 14 ls []) := by
    intro k14
    induction k14 with
    | zero => intro z14 H locs ls h; exact (lp_0 h).elim
    | succ k14 ih14 =>
      intro z14 H locs ls h Z hl
      obtain ⟨x14, hb14, hx14⟩ := lp_s h
      clear h
      unfold p_X7_classAt_b14 at hb14
      refine lv_iload C.1 C.2.1 dX7_classAt_14 (lv_at hl 3 rfl) ?_
      refine lv_aload_n C.1 C.2.1 dX7_classAt_16 rfl (lv_at hl 0 rfl) ?_
      refine x_get C Z 0 rfl rfl i_X7_X7_classAt (k := 21) (by decide) (List.mem_of_getElem? (i := 1) rfl) rfl dX7_classAt_17 ?_
      have q33 := (ck_some hb14).1
      have h34 := (ck_some hb14).2
      clear hb14
      have q35 := (ck_some h34).1
      have h36 := (ck_some h34).2
      clear h34
      refine x_icmp_ge (tgt := 64) C dX7_classAt_20 (by decide) q33 q35 (fun c37 => ?_) (fun c37 => ?_)
      · have h38 := if_n h36 c37
        clear h36
        cases h38
        exact hK14 () _ _ _ (lp_R hx14).symm Z (lv_sub hl [] rfl)
      · have h39 := if_p h36 c37
        clear h36
        refine lv_aload_n C.1 C.2.1 dX7_classAt_23 rfl (lv_at hl 0 rfl) ?_
        refine x_get C Z 0 rfl rfl i_X7_X7_classAt (k := 17) (by decide) (List.mem_of_getElem? (i := 2) rfl) rfl dX7_classAt_24 ?_
        refine lv_iload C.1 C.2.1 dX7_classAt_27 (lv_at hl 3 rfl) ?_
        have q40 := (ix_some h39).1
        have h41 := (ix_some h39).2
        clear h39
        refine x_iald C Z 15 rfl (by decide) q40 dX7_classAt_29 ?_
        refine lv_iload_n C.1 C.2.1 dX7_classAt_30 rfl (lv_at hl 2 rfl) ?_
        have q42 := (ck_some h41).1
        have h43 := (ck_some h41).2
        clear h41
        have q44 := (ck_some h43).1
        have h45 := (ck_some h43).2
        clear h43
        refine x_icmp_ne (tgt := 58) C dX7_classAt_31 (by decide) q42 q44 (fun c46 => ?_) (fun c46 => ?_)
        · have h47 := if_n h45 c46
          clear h45
          refine x_iinc (lv' := [(4, .int (iI (z14 + 1))), (0, .ref (aM 0)), (2, .int (iI v2)), (3, .int (iI ((r1 + v2) - 1)))]) C dX7_classAt_58 hl (k := 3) rfl (by decide) rfl (fun ls hl => ?_)
          refine lv_goto (tgt := 14) C.1 C.2.1 dX7_classAt_61 (by decide) ?_
          cases h47
          exact ih14 (z14 + 1) _ _ _ (lp_L2 hx14) Z (lv_sub hl [1, 2, 3, 0] rfl)
        · have h48 := if_p h45 c46
          clear h45
          refine lv_iload_n C.1 C.2.1 dX7_classAt_34 rfl (lv_at hl 1 rfl) ?_
          refine lv_aload_n C.1 C.2.1 dX7_classAt_35 rfl (lv_at hl 0 rfl) ?_
          refine x_get C Z 0 rfl rfl i_X7_X7_classAt (k := 18) (by decide) (List.mem_of_getElem? (i := 3) rfl) rfl dX7_classAt_36 ?_
          refine lv_iload C.1 C.2.1 dX7_classAt_39 (lv_at hl 3 rfl) ?_
          refine x_iald C Z 16 rfl (by decide) q40 dX7_classAt_41 ?_
          refine lv_aload_n C.1 C.2.1 dX7_classAt_42 rfl (lv_at hl 0 rfl) ?_
          refine x_get C Z 0 rfl rfl i_X7_X7_classAt (k := 19) (by decide) (List.mem_of_getElem? (i := 4) rfl) rfl dX7_classAt_43 ?_
          refine lv_iload C.1 C.2.1 dX7_classAt_46 (lv_at hl 3 rfl) ?_
          refine x_iald C Z 17 rfl (by decide) q40 dX7_classAt_48 ?_
          obtain ⟨r53, hr53, h54⟩ := bd_some h48
          clear h48
          refine x_callS_i (As := [.int (iI v2), .int (iI (sMc.classShort z14)), .int (iI (sMc.classLong z14))]) (rest := []) C Z (k_X7_in l g n v2 (sMc.classShort z14) (sMc.classLong z14) r53 hr53) gX7_classAt_X7_in yk_X7_in ⟨Nat.le_of_ble_eq_true rfl, Nat.le_of_ble_eq_true rfl⟩ ⟨Nat.zero_le _, Nat.zero_le _⟩ hl.1 rfl (Nat.le_of_ble_eq_true rfl) rfl dX7_classAt_49 (fun H locs Z => ?_)
          have q55 := (ck_some h54).1
          have h56 := (ck_some h54).2
          clear h54
          refine x_if_eq (tgt := 58) C dX7_classAt_52 (by decide) q55 (fun c57 => ?_) (fun c57 => ?_)
          · have h58 := if_p h56 c57
            clear h56
            refine x_iinc (lv' := [(4, .int (iI (z14 + 1))), (0, .ref (aM 0)), (2, .int (iI v2)), (3, .int (iI ((r1 + v2) - 1)))]) C dX7_classAt_58 hl (k := 3) rfl (by decide) rfl (fun ls hl => ?_)
            refine lv_goto (tgt := 14) C.1 C.2.1 dX7_classAt_61 (by decide) ?_
            cases h58
            exact ih14 (z14 + 1) _ _ _ (lp_L2 hx14) Z (lv_sub hl [1, 2, 3, 0] rfl)
          · have h59 := if_n h56 c57
            clear h56
            refine lv_iload C.1 C.2.1 dX7_classAt_55 (lv_at hl 3 rfl) ?_
            cases h59
            have h60 := lp_R hx14
            subst h60
            have h61 := (Sum.elim_inl ..).symm.trans h63
            have h62 := Option.some.inj h61
            subst h62
            exact hRet _ _ _ _ Z dX7_classAt_57
  exact hL14 n 0 _ _ _ hl14 Z (lv_sub hl [2, 4, 1, 0] rfl)
abbrev rmX7_apart : Room := { frames := 2, cells := 0, slots := 0, locals := 47 }
theorem yk_X7_apart : xY yX7_apart RX7 cX7_apart 4 (some .int) wsX7_apart rmX7_apart 0 := ⟨⟨_, rfl⟩, by decide +kernel, rfl, rfl⟩
theorem i_X7_X7_apart : ∀ w ∈ u_ws RX7 TX7 23, w ∈ wsX7_apart := fun _ h => List.mem_cons_of_mem _ (List.mem_append_right _ h)
set_option maxHeartbeats 4000000 in
set_option maxRecDepth 100000 in
theorem k_X7_apart (l : Launch) (g : xG) (n : Nat) (aM : Nat → Nat) (sMv : MvS) (sMp : MpS) (sMt : MtS) (sMs : MsS) (sMc : McS) (sMr : MrS) (r : Int) (hf : p_X7_apart n sMp sMt = some r) : xMi l yX7_apart wsX7_apart rmX7_apart g [.ref (aM 0)] (wM g aM sMv sMp sMt sMs sMc sMr) (wM g aM sMv sMp sMt sMs sMc sMr) r := by
  refine x_ofW_i (own := RX7) (by decide) rfl rfl (Nat.le_of_ble_eq_true rfl) ?_
  intro p e s m args below meth c ls A QQ C hRet Z hl
  have hl : lv_has ls 4 [(0, .ref (aM 0))] := hl
  unfold p_X7_apart at hf
  refine x_iconst C dX7_apart_0 ?_
  refine lv_istore_n (lv' := [(1, .int (iI 0)), (0, .ref (aM 0))]) C.1 C.2.1 dX7_apart_1 rfl hl (by decide) rfl (fun ls hl => ?_)
  refine x_iconst C dX7_apart_2 ?_
  refine lv_istore_n (lv' := [(2, .int (iI 0)), (1, .int (iI 0)), (0, .ref (aM 0))]) C.1 C.2.1 dX7_apart_3 rfl hl (by decide) rfl (fun ls hl => ?_)
  refine x_iconst C dX7_apart_4 ?_
  refine lv_istore_n (lv' := [(3, .int (iI 0)), (2, .int (iI 0)), (1, .int (iI 0)), (0, .ref (aM 0))]) C.1 C.2.1 dX7_apart_5 rfl hl (by decide) rfl (fun ls hl => ?_)
  obtain ⟨ex6, hl6, h45⟩ := bd_some hf
  clear hf
  have hK6 : ∀ (H : Heap) (locs : List Loc) (ls : Array Slot), xSt g A s (wM g aM sMv sMp sMt sMs sMc sMr) H locs → lv_has ls 4 [(1, .int (iI ex6))] → W p l e rmX7_apart s m args below meth c H locs 0 0 QQ (F0 m 50 ls []) := by
    intro H locs ls Z hl
    have h46 := h45
    clear h45
    refine lv_iload_n C.1 C.2.1 dX7_apart_50 rfl (lv_at hl 0 rfl) ?_
    have h47 := Option.some.inj h46
    subst h47
    exact hRet _ _ _ _ Z dX7_apart_51
  have hL6 : ∀ (k6 : Nat) (z6 : Int × Int × Int) (H : Heap) (locs : List Loc) (ls : Array Slot), lp (p_X7_apart_b6 n sMp sMt) k6 z6 = some ex6 → xSt g A s (wM g aM sMv sMp sMt sMs sMc sMr) H locs → lv_has ls 4 [(0, .ref (aM 0)), (1, .int (iI z6.1)), (2, .int (iI z6.2.1)), (3, .int (iI z6.2.2))] → W p l e rmX7_apart s m args below meth c H locs 0 0 QQ (F0 m 6 ls []) := by
    intro k6
    induction k6 with
    | zero => intro z6 H locs ls h; exact (lp_0 h).elim
    | succ k6 ih6 =>
      intro z6 H locs ls h Z hl
      obtain ⟨x6, hb6, hx6⟩ := lp_s h
      clear h
      unfold p_X7_apart_b6 at hb6
      refine lv_iload_n C.1 C.2.1 dX7_apart_6 rfl (lv_at hl 3 rfl) ?_
      refine lv_aload_n C.1 C.2.1 dX7_apart_7 rfl (lv_at hl 0 rfl) ?_
      refine x_get C Z 0 rfl rfl i_X7_X7_apart (k := 12) (by decide) (List.mem_of_getElem? (i := 1) rfl) rfl dX7_apart_8 ?_
      refine x_iconst C dX7_apart_11 ?_
      refine x_iald C Z 10 rfl (by decide) (by decide) dX7_apart_12 ?_
      have q25 := (ck_some hb6).1
      have h26 := (ck_some hb6).2
      clear hb6
      have q27 := (ck_some h26).1
      have h28 := (ck_some h26).2
      clear h26
      refine x_icmp_ge (tgt := 50) C dX7_apart_13 (by decide) q25 q27 (fun c29 => ?_) (fun c29 => ?_)
      · have h30 := if_n h28 c29
        clear h28
        cases h30
        have h32 := lp_R hx6
        subst h32
        exact hK6 _ _ _ Z (lv_sub hl [1] rfl)
      · have h31 := if_p h28 c29
        clear h28
        refine lv_iload_n C.1 C.2.1 dX7_apart_16 rfl (lv_at hl 3 rfl) ?_
        refine lv_iload_n C.1 C.2.1 dX7_apart_17 rfl (lv_at hl 2 rfl) ?_
        have q33 := (ck_some h31).1
        have h34 := (ck_some h31).2
        clear h31
        refine x_icmp_lt (tgt := 44) C dX7_apart_18 (by decide) q25 q33 (fun c35 => ?_) (fun c35 => ?_)
        · have h36 := if_p h34 c35
          clear h34
          refine x_iinc (lv' := [(3, .int (iI (z6.2.2 + 1))), (0, .ref (aM 0)), (1, .int (iI z6.1)), (2, .int (iI z6.2.1))]) C dX7_apart_44 hl (k := 3) rfl (by decide) rfl (fun ls hl => ?_)
          refine lv_goto (tgt := 6) C.1 C.2.1 dX7_apart_47 (by decide) ?_
          cases h36
          exact ih6 (z6.1, z6.2.1, z6.2.2 + 1) _ _ _ (lp_L2 hx6) Z (lv_sub hl [1, 2, 3, 0] rfl)
        · have h37 := if_n h34 c35
          clear h34
          refine lv_aload_n C.1 C.2.1 dX7_apart_21 rfl (lv_at hl 0 rfl) ?_
          refine lv_iload_n C.1 C.2.1 dX7_apart_22 rfl (lv_at hl 3 rfl) ?_
          refine x_iconst C dX7_apart_23 ?_
          refine lv_aload_n C.1 C.2.1 dX7_apart_24 rfl (lv_at hl 0 rfl) ?_
          refine x_get C Z 0 rfl rfl i_X7_X7_apart (k := 7) (by decide) (List.mem_of_getElem? (i := 2) rfl) rfl dX7_apart_25 ?_
          obtain ⟨r38, hr38, h39⟩ := bd_some h37
          clear h37
          refine x_callV_i_id (As := [.int (iI z6.2.2), .int (iI 0), .int (iI sMp.padMany)]) (rest := []) (q0 := 0) C Z (k_X7_stands l g n aM sMv sMp sMt sMs sMc sMr z6.2.2 0 sMp.padMany r38 hr38) gX7_apart_X7_stands yk_X7_stands ⟨Nat.le_of_ble_eq_true rfl, Nat.le_of_ble_eq_true rfl⟩ rfl rfl ⟨Nat.zero_le _, Nat.zero_le _⟩ hl.1 rfl (Nat.le_of_ble_eq_true rfl) rfl dX7_apart_28 (fun H locs Z => ?_)
          have q40 := (ck_some h39).1
          have h41 := (ck_some h39).2
          clear h39
          refine x_if_eq (tgt := 44) C dX7_apart_31 (by decide) q40 (fun c42 => ?_) (fun c42 => ?_)
          · have h43 := if_p h41 c42
            clear h41
            refine x_iinc (lv' := [(3, .int (iI (z6.2.2 + 1))), (0, .ref (aM 0)), (1, .int (iI z6.1)), (2, .int (iI z6.2.1))]) C dX7_apart_44 hl (k := 3) rfl (by decide) rfl (fun ls hl => ?_)
            refine lv_goto (tgt := 6) C.1 C.2.1 dX7_apart_47 (by decide) ?_
            cases h43
            exact ih6 (z6.1, z6.2.1, z6.2.2 + 1) _ _ _ (lp_L2 hx6) Z (lv_sub hl [1, 2, 3, 0] rfl)
          · have h44 := if_n h41 c42
            clear h41
            refine x_iinc (lv' := [(1, .int (iI (z6.1 + 1))), (0, .ref (aM 0)), (2, .int (iI z6.2.1)), (3, .int (iI z6.2.2))]) C dX7_apart_34 hl (k := 1) rfl (by decide) rfl (fun ls hl => ?_)
            refine lv_iload_n C.1 C.2.1 dX7_apart_37 rfl (lv_at hl 3 rfl) ?_
            refine lv_aload_n C.1 C.2.1 dX7_apart_38 rfl (lv_at hl 1 rfl) ?_
            refine x_get C Z 0 rfl rfl i_X7_X7_apart (k := 7) (by decide) (List.mem_of_getElem? (i := 2) rfl) rfl dX7_apart_39 ?_
            refine x_iadd C dX7_apart_42 ?_
            refine lv_istore_n (lv' := [(2, .int (iI (z6.2.2 + sMp.padMany))), (1, .int (iI (z6.1 + 1))), (0, .ref (aM 0)), (3, .int (iI z6.2.2))]) C.1 C.2.1 dX7_apart_43 rfl hl (by decide) rfl (fun ls hl => ?_)
            refine x_iinc (lv' := [(3, .int (iI (z6.2.2 + 1))), (2, .int (iI (z6.2.2 + sMp.padMany))), (1, .int (iI (z6.1 + 1))), (0, .ref (aM 0))]) C dX7_apart_44 hl (k := 3) rfl (by decide) rfl (fun ls hl => ?_)
            refine lv_goto (tgt := 6) C.1 C.2.1 dX7_apart_47 (by decide) ?_
            cases h44
            exact ih6 (z6.1 + 1, z6.2.2 + sMp.padMany, z6.2.2 + 1) _ _ _ (lp_L2 hx6) Z (lv_sub hl [3, 2, 1, 0] rfl)
  exact hL6 n (0, 0, 0) _ _ _ hl6 Z (lv_sub hl [3, 2, 1, 0] rfl)
abbrev rmX7_occurs : Room := { frames := 5, cells := 0, slots := 0, locals := 120 }
theorem yk_X7_occurs : xY yX7_occurs RX7 cX7_occurs 6 (some .int) wsX7_occurs rmX7_occurs 1 := ⟨⟨_, rfl⟩, by decide +kernel, rfl, rfl⟩
theorem i_X7_X7_occurs : ∀ w ∈ u_ws RX7 TX7 23, w ∈ wsX7_occurs := fun _ h => List.mem_cons_of_mem _ (List.mem_append_right _ h)
set_option maxHeartbeats 4000000 in
set_option maxRecDepth 100000 in
theorem k_X7_occurs (l : Launch) (g : xG) (n : Nat) (aM : Nat → Nat) (sMv : MvS) (sMp : MpS) (sMt : MtS) (sMs : MsS) (sMc : McS) (sMr : MrS) (v1 : Int) (r : Int × MtS × McS) (hf : p_X7_occurs n sMv sMp sMt sMc v1 = some r) : xMi l yX7_occurs wsX7_occurs rmX7_occurs g [.ref (aM 0), .int (iI v1)] (wM g aM sMv sMp sMt sMs sMc sMr) (wM g aM sMv sMp r.2.1 sMs r.2.2 sMr) r.1 := by
  refine x_ofW_i (own := RX7) (by decide) rfl rfl (Nat.le_of_ble_eq_true rfl) ?_
  intro p e s m args below meth c ls A QQ C hRet Z hl
  have hl : lv_has ls 6 [(0, .ref (aM 0)), (1, .int (iI v1))] := hl
  unfold p_X7_occurs at hf
  refine lv_iload_n C.1 C.2.1 dX7_occurs_0 rfl (lv_at hl 1 rfl) ?_
  refine x_iconst C dX7_occurs_1 ?_
  refine x_iconst C dX7_occurs_2 ?_
  obtain ⟨r1, hr1, h2⟩ := bd_some hf
  clear hf
  refine x_callS_i (As := [.int (iI v1), .int (iI 0), .int (iI 3)]) (rest := []) C Z (k_X7_in l g n v1 0 3 r1 hr1) gX7_occurs_X7_in yk_X7_in ⟨Nat.le_of_ble_eq_true rfl, Nat.le_of_ble_eq_true rfl⟩ ⟨Nat.zero_le _, Nat.zero_le _⟩ hl.1 rfl (Nat.le_of_ble_eq_true rfl) rfl dX7_occurs_3 (fun H locs Z => ?_)
  have q3 := (ck_some h2).1
  have h4 := (ck_some h2).2
  clear h2
  refine x_if_ne (tgt := 12) C dX7_occurs_6 (by decide) q3 (fun c5 => ?_) (fun c5 => ?_)
  · have h6 := if_n h4 c5
    clear h4
    refine lv_aload_n C.1 C.2.1 dX7_occurs_12 rfl (lv_at hl 0 rfl) ?_
    obtain ⟨r8, hr8, h9⟩ := bd_some h6
    clear h6
    refine x_callV_i_id (As := []) (rest := []) (q0 := 0) C Z (k_X7_isPattern l g n aM sMv sMp sMt sMs sMc sMr r8 hr8) gX7_occurs_X7_isPattern yk_X7_isPattern ⟨Nat.le_of_ble_eq_true rfl, Nat.le_of_ble_eq_true rfl⟩ rfl rfl ⟨Nat.zero_le _, Nat.zero_le _⟩ hl.1 rfl (Nat.le_of_ble_eq_true rfl) rfl dX7_occurs_13 (fun H locs Z => ?_)
    have q10 := (ck_some h9).1
    have h11 := (ck_some h9).2
    clear h9
    refine x_if_ne (tgt := 22) C dX7_occurs_16 (by decide) q10 (fun c12 => ?_) (fun c12 => ?_)
    · have h13 := if_n h11 c12
      clear h11
      refine lv_aload_n C.1 C.2.1 dX7_occurs_22 rfl (lv_at hl 0 rfl) ?_
      obtain ⟨r15, hr15, h16⟩ := bd_some h13
      clear h13
      refine x_callV_v_id (As := []) (rest := []) (q0 := 0) C Z (k_X7_layPresent l g n aM sMv sMp sMt sMs sMc sMr r15 hr15) gX7_occurs_X7_layPresent yk_X7_layPresent ⟨Nat.le_of_ble_eq_true rfl, Nat.le_of_ble_eq_true rfl⟩ rfl rfl ⟨Nat.zero_le _, Nat.zero_le _⟩ hl.1 rfl (Nat.le_of_ble_eq_true rfl) rfl dX7_occurs_23 (fun H locs Z => ?_)
      refine x_iconst C dX7_occurs_26 ?_
      refine lv_istore_n (lv' := [(2, .int (iI 0)), (0, .ref (aM 0)), (1, .int (iI v1))]) C.1 C.2.1 dX7_occurs_27 rfl hl (by decide) rfl (fun ls hl => ?_)
      refine x_iconst C dX7_occurs_28 ?_
      refine lv_istore_n (lv' := [(3, .int (iI 0)), (2, .int (iI 0)), (0, .ref (aM 0)), (1, .int (iI v1))]) C.1 C.2.1 dX7_occurs_29 rfl hl (by decide) rfl (fun ls hl => ?_)
      refine x_bipush C dX7_occurs_30 (by decide) ?_
      refine lv_istore (lv' := [(4, .int (iI (-6))), (3, .int (iI 0)), (2, .int (iI 0)), (0, .ref (aM 0)), (1, .int (iI v1))]) C.1 C.2.1 dX7_occurs_32 hl (by decide) rfl (fun ls hl => ?_)
      refine lv_aload_n C.1 C.2.1 dX7_occurs_34 rfl (lv_at hl 3 rfl) ?_
      refine x_get C Z 0 rfl rfl i_X7_X7_occurs (k := 12) (by decide) (List.mem_of_getElem? (i := 1) rfl) rfl dX7_occurs_35 ?_
      refine x_iconst C dX7_occurs_38 ?_
      refine x_iald C Z 10 rfl (by decide) (by decide) dX7_occurs_39 ?_
      refine x_iconst C dX7_occurs_40 ?_
      refine x_isub C dX7_occurs_41 ?_
      refine lv_istore (lv' := [(5, .int (iI ((r15.many 0) - 1))), (4, .int (iI (-6))), (3, .int (iI 0)), (2, .int (iI 0)), (0, .ref (aM 0)), (1, .int (iI v1))]) C.1 C.2.1 dX7_occurs_42 hl (by decide) rfl (fun ls hl => ?_)
      obtain ⟨ex44, hl44, h49⟩ := bd_some h16
      clear h16
      have hK44 : ∀ (H : Heap) (locs : List Loc) (ls : Array Slot), xSt g A s (wM g aM sMv sMp r15 sMs sMc sMr) H locs → lv_has ls 6 [(0, .ref (aM 0)), (1, .int (iI v1)), (2, .int (iI ex44.1)), (3, .int (iI ex44.2.1)), (4, .int (iI ex44.2.2))] → W p l e rmX7_occurs s m args below meth c H locs 0 0 QQ (F0 m 88 ls []) := by
        intro H locs ls Z hl
        have h50 := h49
        clear h49
        refine lv_iload_n C.1 C.2.1 dX7_occurs_88 rfl (lv_at hl 1 rfl) ?_
        have q51 := (ck_some h50).1
        have h52 := (ck_some h50).2
        clear h50
        by_cases c53 : v1 = 0
        · have h54 := if_p h52 c53
          clear h52
          refine x_tin (tgt := 116) C dX7_occurs_89 q51 c53 (by decide) (by decide) (by rfl) (by decide) ?_
          refine lv_iload_n C.1 C.2.1 dX7_occurs_116 rfl (lv_at hl 2 rfl) ?_
          have h56 := Option.some.inj h54
          subst h56
          exact hRet _ _ _ _ Z dX7_occurs_117
        have h55 := if_n h52 c53
        clear h52
        by_cases c57 : v1 = 1
        · have h58 := if_p h55 c57
          clear h55
          refine x_tin (tgt := 118) C dX7_occurs_89 q51 c57 (by decide) (by decide) (by rfl) (by decide) ?_
          refine lv_iload_n C.1 C.2.1 dX7_occurs_118 rfl (lv_at hl 3 rfl) ?_
          have h60 := Option.some.inj h58
          subst h60
          exact hRet _ _ _ _ Z dX7_occurs_119
        have h59 := if_n h55 c57
        clear h55
        by_cases c61 : v1 = 2
        · have h62 := if_p h59 c61
          clear h59
          refine x_tin (tgt := 120) C dX7_occurs_89 q51 c61 (by decide) (by decide) (by rfl) (by decide) ?_
          refine lv_aload_n C.1 C.2.1 dX7_occurs_120 rfl (lv_at hl 0 rfl) ?_
          obtain ⟨r64, hr64, h65⟩ := bd_some h62
          clear h62
          refine x_callV_v_id (As := []) (rest := []) (q0 := 0) C Z (k_X7_layClasses l g n aM sMv sMp r15 sMs sMc sMr r64 hr64) gX7_occurs_X7_layClasses yk_X7_layClasses ⟨Nat.le_of_ble_eq_true rfl, Nat.le_of_ble_eq_true rfl⟩ rfl rfl ⟨Nat.zero_le _, Nat.zero_le _⟩ hl.1 rfl (Nat.le_of_ble_eq_true rfl) rfl dX7_occurs_121 (fun H locs Z => ?_)
          refine lv_iload C.1 C.2.1 dX7_occurs_124 (lv_at hl 4 rfl) ?_
          have q66 := (ck_some h65).1
          have h67 := (ck_some h65).2
          clear h65
          refine x_if_ge (tgt := 134) C dX7_occurs_126 (by decide) q66 (fun c68 => ?_) (fun c68 => ?_)
          · have h69 := if_n h67 c68
            clear h67
            refine lv_aload_n C.1 C.2.1 dX7_occurs_134 rfl (lv_at hl 0 rfl) ?_
            refine lv_iload C.1 C.2.1 dX7_occurs_135 (lv_at hl 4 rfl) ?_
            refine lv_aload_n C.1 C.2.1 dX7_occurs_137 rfl (lv_at hl 0 rfl) ?_
            refine x_get C Z 0 rfl rfl i_X7_X7_occurs (k := 7) (by decide) (List.mem_of_getElem? (i := 2) rfl) rfl dX7_occurs_138 ?_
            obtain ⟨r71, hr71, h72⟩ := bd_some h69
            clear h69
            refine x_callV_i_id (As := [.int (iI ex44.2.2), .int (iI sMp.padMany)]) (rest := []) (q0 := 0) C Z (k_X7_classAt l g n aM sMv sMp r15 sMs r64 sMr ex44.2.2 sMp.padMany r71 hr71) gX7_occurs_X7_classAt yk_X7_classAt ⟨Nat.le_of_ble_eq_true rfl, Nat.le_of_ble_eq_true rfl⟩ rfl rfl ⟨Nat.zero_le _, Nat.zero_le _⟩ hl.1 rfl (Nat.le_of_ble_eq_true rfl) rfl dX7_occurs_141 (fun H locs Z => ?_)
            have h73 := Option.some.inj h72
            subst h73
            exact hRet _ _ _ _ Z dX7_occurs_144
          · have h70 := if_p h67 c68
            clear h67
            refine x_bipush C dX7_occurs_129 (by decide) ?_
            refine lv_goto (tgt := 144) C.1 C.2.1 dX7_occurs_131 (by decide) ?_
            have h74 := Option.some.inj h70
            subst h74
            exact hRet _ _ _ _ Z dX7_occurs_144
        have h63 := if_n h59 c61
        clear h59
        refine x_tout (tgt := 145) C dX7_occurs_89 q51 (by omega) (by decide) ?_
        refine lv_aload_n C.1 C.2.1 dX7_occurs_145 rfl (lv_at hl 0 rfl) ?_
        obtain ⟨r75, hr75, h76⟩ := bd_some h63
        clear h63
        refine x_callV_i_id (As := []) (rest := []) (q0 := 0) C Z (k_X7_apart l g n aM sMv sMp r15 sMs sMc sMr r75 hr75) gX7_occurs_X7_apart yk_X7_apart ⟨Nat.le_of_ble_eq_true rfl, Nat.le_of_ble_eq_true rfl⟩ rfl rfl ⟨Nat.zero_le _, Nat.zero_le _⟩ hl.1 rfl (Nat.le_of_ble_eq_true rfl) rfl dX7_occurs_146 (fun H locs Z => ?_)
        have h77 := Option.some.inj h76
        subst h77
        exact hRet _ _ _ _ Z dX7_occurs_149
      have hL44 : ∀ (k44 : Nat) (z44 : Int × Int × Int × Int) (H : Heap) (locs : List Loc) (ls : Array Slot), lp (p_X7_occurs_b44 n sMp r15) k44 z44 = some ex44 → xSt g A s (wM g aM sMv sMp r15 sMs sMc sMr) H locs → lv_has ls 6 [(0, .ref (aM 0)), (1, .int (iI v1)), (2, .int (iI z44.1)), (3, .int (iI z44.2.1)), (4, .int (iI z44.2.2.1)), (5, .int (iI z44.2.2.2))] → W p l e rmX7_occurs s m args below meth c H locs 0 0 QQ (F0 m 44 ls []) := by
        intro k44
        induction k44 with
        | zero => intro z44 H locs ls h; exact (lp_0 h).elim
        | succ k44 ih44 =>
          intro z44 H locs ls h Z hl
          obtain ⟨x44, hb44, hx44⟩ := lp_s h
          clear h
          unfold p_X7_occurs_b44 at hb44
          refine lv_iload C.1 C.2.1 dX7_occurs_44 (lv_at hl 5 rfl) ?_
          have q34 := (ck_some hb44).1
          have h35 := (ck_some hb44).2
          clear hb44
          refine x_if_lt (tgt := 88) C dX7_occurs_46 (by decide) q34 (fun c36 => ?_) (fun c36 => ?_)
          · have h37 := if_p h35 c36
            clear h35
            cases h37
            have h39 := lp_R hx44
            subst h39
            exact hK44 _ _ _ Z (lv_sub hl [0, 1, 2, 3, 4] rfl)
          · have h38 := if_n h35 c36
            clear h35
            refine lv_aload_n C.1 C.2.1 dX7_occurs_49 rfl (lv_at hl 0 rfl) ?_
            refine lv_iload C.1 C.2.1 dX7_occurs_50 (lv_at hl 5 rfl) ?_
            refine x_iconst C dX7_occurs_52 ?_
            refine lv_aload_n C.1 C.2.1 dX7_occurs_53 rfl (lv_at hl 0 rfl) ?_
            refine x_get C Z 0 rfl rfl i_X7_X7_occurs (k := 7) (by decide) (List.mem_of_getElem? (i := 2) rfl) rfl dX7_occurs_54 ?_
            obtain ⟨r40, hr40, h41⟩ := bd_some h38
            clear h38
            refine x_callV_i_id (As := [.int (iI z44.2.2.2), .int (iI 0), .int (iI sMp.padMany)]) (rest := []) (q0 := 0) C Z (k_X7_stands l g n aM sMv sMp r15 sMs sMc sMr z44.2.2.2 0 sMp.padMany r40 hr40) gX7_occurs_X7_stands yk_X7_stands ⟨Nat.le_of_ble_eq_true rfl, Nat.le_of_ble_eq_true rfl⟩ rfl rfl ⟨Nat.zero_le _, Nat.zero_le _⟩ hl.1 rfl (Nat.le_of_ble_eq_true rfl) rfl dX7_occurs_57 (fun H locs Z => ?_)
            have q42 := (ck_some h41).1
            have h43 := (ck_some h41).2
            clear h41
            refine x_if_eq (tgt := 82) C dX7_occurs_60 (by decide) q42 (fun c44 => ?_) (fun c44 => ?_)
            · have h45 := if_p h43 c44
              clear h43
              refine x_iinc (lv' := [(5, .int (iI (z44.2.2.2 + (-1)))), (0, .ref (aM 0)), (1, .int (iI v1)), (2, .int (iI z44.1)), (3, .int (iI z44.2.1)), (4, .int (iI z44.2.2.1))]) C dX7_occurs_82 hl (k := 5) rfl (by decide) rfl (fun ls hl => ?_)
              refine lv_goto (tgt := 44) C.1 C.2.1 dX7_occurs_85 (by decide) ?_
              cases h45
              exact ih44 (z44.1, z44.2.1, z44.2.2.1, z44.2.2.2 + (-1)) _ _ _ (lp_L2 hx44) Z (lv_sub hl [1, 2, 3, 4, 5, 0] rfl)
            · have h46 := if_n h43 c44
              clear h43
              refine x_iinc (lv' := [(2, .int (iI (z44.1 + 1))), (0, .ref (aM 0)), (1, .int (iI v1)), (3, .int (iI z44.2.1)), (4, .int (iI z44.2.2.1)), (5, .int (iI z44.2.2.2))]) C dX7_occurs_63 hl (k := 2) rfl (by decide) rfl (fun ls hl => ?_)
              refine lv_iload_n C.1 C.2.1 dX7_occurs_66 rfl (lv_at hl 3 rfl) ?_
              refine x_iconst C dX7_occurs_67 ?_
              refine lv_aload_n C.1 C.2.1 dX7_occurs_68 rfl (lv_at hl 1 rfl) ?_
              refine x_get C Z 0 rfl rfl i_X7_X7_occurs (k := 9) (by decide) (List.mem_of_getElem? (i := 3) rfl) rfl dX7_occurs_69 ?_
              refine lv_iload C.1 C.2.1 dX7_occurs_72 (lv_at hl 5 rfl) ?_
              have q47 := (ix_some h46).1
              have h48 := (ix_some h46).2
              clear h46
              refine x_iald C Z 7 rfl (by decide) q47 dX7_occurs_74 ?_
              refine x_ishl C dX7_occurs_75 ?_
              refine x_ior C dX7_occurs_76 ?_
              refine lv_istore_n (lv' := [(3, .int (iI (bior z44.2.1 (bishl 1 (r15.wordOf z44.2.2.2))))), (2, .int (iI (z44.1 + 1))), (0, .ref (aM 0)), (1, .int (iI v1)), (4, .int (iI z44.2.2.1)), (5, .int (iI z44.2.2.2))]) C.1 C.2.1 dX7_occurs_77 rfl hl (by decide) rfl (fun ls hl => ?_)
              refine lv_iload C.1 C.2.1 dX7_occurs_78 (lv_at hl 5 rfl) ?_
              refine lv_istore (lv' := [(4, .int (iI z44.2.2.2)), (3, .int (iI (bior z44.2.1 (bishl 1 (r15.wordOf z44.2.2.2))))), (2, .int (iI (z44.1 + 1))), (0, .ref (aM 0)), (1, .int (iI v1)), (5, .int (iI z44.2.2.2))]) C.1 C.2.1 dX7_occurs_80 hl (by decide) rfl (fun ls hl => ?_)
              refine x_iinc (lv' := [(5, .int (iI (z44.2.2.2 + (-1)))), (4, .int (iI z44.2.2.2)), (3, .int (iI (bior z44.2.1 (bishl 1 (r15.wordOf z44.2.2.2))))), (2, .int (iI (z44.1 + 1))), (0, .ref (aM 0)), (1, .int (iI v1))]) C dX7_occurs_82 hl (k := 5) rfl (by decide) rfl (fun ls hl => ?_)
              refine lv_goto (tgt := 44) C.1 C.2.1 dX7_occurs_85 (by decide) ?_
              cases h48
              exact ih44 (z44.1 + 1, bior z44.2.1 (bishl 1 (r15.wordOf z44.2.2.2)), z44.2.2.2, z44.2.2.2 + (-1)) _ _ _ (lp_L2 hx44) Z (lv_sub hl [4, 5, 3, 2, 1, 0] rfl)
      exact hL44 n (0, 0, (-6), (r15.many 0) - 1) _ _ _ hl44 Z (lv_sub hl [4, 5, 3, 2, 1, 0] rfl)
    · have h14 := if_p h11 c12
      clear h11
      refine x_bipush C dX7_occurs_19 (by decide) ?_
      have h78 := Option.some.inj h14
      subst h78
      exact hRet _ _ _ _ Z dX7_occurs_21
  · have h7 := if_p h4 c5
    clear h4
    refine x_bipush C dX7_occurs_9 (by decide) ?_
    have h79 := Option.some.inj h7
    subst h79
    exact hRet _ _ _ _ Z dX7_occurs_11
abbrev rmX7_asEnd : Room := { frames := 0, cells := 0, slots := 0, locals := 0 }
theorem yk_X7_asEnd : xY yX7_asEnd RX7 cX7_asEnd 2 (some .int) wsX7_asEnd rmX7_asEnd 1 := ⟨⟨_, rfl⟩, by decide +kernel, rfl, rfl⟩
theorem i_X7_X7_asEnd : ∀ w ∈ u_ws RX7 TX7 23, w ∈ wsX7_asEnd := fun _ h => List.mem_cons_of_mem _ (List.mem_append_right _ h)
set_option maxHeartbeats 4000000 in
set_option maxRecDepth 100000 in
theorem k_X7_asEnd (l : Launch) (g : xG) (n : Nat) (aM : Nat → Nat) (sMv : MvS) (sMp : MpS) (sMt : MtS) (sMs : MsS) (sMc : McS) (sMr : MrS) (v1 : Int) (r : Int) (hf : p_X7_asEnd sMt v1 = some r) : xMi l yX7_asEnd wsX7_asEnd rmX7_asEnd g [.ref (aM 0), .int (iI v1)] (wM g aM sMv sMp sMt sMs sMc sMr) (wM g aM sMv sMp sMt sMs sMc sMr) r := by
  refine x_ofW_i (own := RX7) (by decide) rfl rfl (Nat.le_of_ble_eq_true rfl) ?_
  intro p e s m args below meth c ls A QQ C hRet Z hl
  have hl : lv_has ls 2 [(0, .ref (aM 0)), (1, .int (iI v1))] := hl
  unfold p_X7_asEnd at hf
  refine x_bipush C dX7_asEnd_0 (by decide) ?_
  refine lv_aload_n C.1 C.2.1 dX7_asEnd_2 rfl (lv_at hl 0 rfl) ?_
  refine x_get C Z 0 rfl rfl i_X7_X7_asEnd (k := 9) (by decide) (List.mem_of_getElem? (i := 1) rfl) rfl dX7_asEnd_3 ?_
  refine lv_iload_n C.1 C.2.1 dX7_asEnd_6 rfl (lv_at hl 1 rfl) ?_
  have q1 := (ix_some hf).1
  have h2 := (ix_some hf).2
  clear hf
  refine x_iald C Z 7 rfl (by decide) q1 dX7_asEnd_7 ?_
  refine x_imul C dX7_asEnd_8 ?_
  refine lv_iload_n C.1 C.2.1 dX7_asEnd_9 rfl (lv_at hl 1 rfl) ?_
  refine x_iadd C dX7_asEnd_10 ?_
  refine lv_aload_n C.1 C.2.1 dX7_asEnd_11 rfl (lv_at hl 0 rfl) ?_
  refine x_get C Z 0 rfl rfl i_X7_X7_asEnd (k := 10) (by decide) (List.mem_of_getElem? (i := 2) rfl) rfl dX7_asEnd_12 ?_
  refine lv_aload_n C.1 C.2.1 dX7_asEnd_15 rfl (lv_at hl 0 rfl) ?_
  refine x_get C Z 0 rfl rfl i_X7_X7_asEnd (k := 9) (by decide) (List.mem_of_getElem? (i := 1) rfl) rfl dX7_asEnd_16 ?_
  refine lv_iload_n C.1 C.2.1 dX7_asEnd_19 rfl (lv_at hl 1 rfl) ?_
  refine x_iald C Z 7 rfl (by decide) q1 dX7_asEnd_20 ?_
  have q5 := (ix_some h2).1
  have h6 := (ix_some h2).2
  clear h2
  refine x_iald C Z 8 rfl (by decide) q5 dX7_asEnd_21 ?_
  refine x_isub C dX7_asEnd_22 ?_
  have h7 := Option.some.inj h6
  subst h7
  exact hRet _ _ _ _ Z dX7_asEnd_23
abbrev rmX7_end : Room := { frames := 4, cells := 0, slots := 0, locals := 85 }
theorem yk_X7_end : xY yX7_end RX7 cX7_end 4 (some .int) wsX7_end rmX7_end 1 := ⟨⟨_, rfl⟩, by decide +kernel, rfl, rfl⟩
theorem i_X7_X7_end : ∀ w ∈ u_ws RX7 TX7 23, w ∈ wsX7_end := fun _ h => List.mem_cons_of_mem _ (List.mem_append_right _ h)
set_option maxHeartbeats 4000000 in
set_option maxRecDepth 100000 in
theorem k_X7_end (l : Launch) (g : xG) (n : Nat) (aM : Nat → Nat) (sMv : MvS) (sMp : MpS) (sMt : MtS) (sMs : MsS) (sMc : McS) (sMr : MrS) (v1 : Int) (r : Int × MtS) (hf : p_X7_end n sMv sMp sMt v1 = some r) : xMi l yX7_end wsX7_end rmX7_end g [.ref (aM 0), .int (iI v1)] (wM g aM sMv sMp sMt sMs sMc sMr) (wM g aM sMv sMp r.2 sMs sMc sMr) r.1 := by
  refine x_ofW_i (own := RX7) (by decide) rfl rfl (Nat.le_of_ble_eq_true rfl) ?_
  intro p e s m args below meth c ls A QQ C hRet Z hl
  have hl : lv_has ls 4 [(0, .ref (aM 0)), (1, .int (iI v1))] := hl
  unfold p_X7_end at hf
  refine lv_aload_n C.1 C.2.1 dX7_end_0 rfl (lv_at hl 0 rfl) ?_
  obtain ⟨r1, hr1, h2⟩ := bd_some hf
  clear hf
  refine x_callV_i_id (As := []) (rest := []) (q0 := 0) C Z (k_X7_isPattern l g n aM sMv sMp sMt sMs sMc sMr r1 hr1) gX7_end_X7_isPattern yk_X7_isPattern ⟨Nat.le_of_ble_eq_true rfl, Nat.le_of_ble_eq_true rfl⟩ rfl rfl ⟨Nat.zero_le _, Nat.zero_le _⟩ hl.1 rfl (Nat.le_of_ble_eq_true rfl) rfl dX7_end_1 (fun H locs Z => ?_)
  have q3 := (ck_some h2).1
  have h4 := (ck_some h2).2
  clear h2
  refine x_if_ne (tgt := 10) C dX7_end_4 (by decide) q3 (fun c5 => ?_) (fun c5 => ?_)
  · have h6 := if_n h4 c5
    clear h4
    refine lv_aload_n C.1 C.2.1 dX7_end_10 rfl (lv_at hl 0 rfl) ?_
    obtain ⟨r8, hr8, h9⟩ := bd_some h6
    clear h6
    refine x_callV_v_id (As := []) (rest := []) (q0 := 0) C Z (k_X7_layPresent l g n aM sMv sMp sMt sMs sMc sMr r8 hr8) gX7_end_X7_layPresent yk_X7_layPresent ⟨Nat.le_of_ble_eq_true rfl, Nat.le_of_ble_eq_true rfl⟩ rfl rfl ⟨Nat.zero_le _, Nat.zero_le _⟩ hl.1 rfl (Nat.le_of_ble_eq_true rfl) rfl dX7_end_11 (fun H locs Z => ?_)
    refine x_iconst C dX7_end_14 ?_
    refine lv_istore_n (lv' := [(2, .int (iI 0)), (0, .ref (aM 0)), (1, .int (iI v1))]) C.1 C.2.1 dX7_end_15 rfl hl (by decide) rfl (fun ls hl => ?_)
    refine x_iconst C dX7_end_16 ?_
    refine lv_istore_n (lv' := [(3, .int (iI 0)), (2, .int (iI 0)), (0, .ref (aM 0)), (1, .int (iI v1))]) C.1 C.2.1 dX7_end_17 rfl hl (by decide) rfl (fun ls hl => ?_)
    obtain ⟨ex18, hl18, h66⟩ := bd_some h9
    clear h9
    have hK18 : ∀ (e18 : Unit) (H : Heap) (locs : List Loc) (ls : Array Slot), ex18 = .inr e18 → xSt g A s (wM g aM sMv sMp r8 sMs sMc sMr) H locs → lv_has ls 4 [] → W p l e rmX7_end s m args below meth c H locs 0 0 QQ (F0 m 68 ls []) := by
      intro e18 H locs ls he Z hl
      subst he
      have h67 := (Sum.elim_inr ..).symm.trans h66
      clear h66
      refine x_bipush C dX7_end_68 (by decide) ?_
      have h68 := Option.some.inj h67
      subst h68
      exact hRet _ _ _ _ Z dX7_end_70
    have hL18 : ∀ (k18 : Nat) (z18 : Int × Int) (H : Heap) (locs : List Loc) (ls : Array Slot), lp (p_X7_end_b18 n sMp r8 v1) k18 z18 = some ex18 → xSt g A s (wM g aM sMv sMp r8 sMs sMc sMr) H locs → lv_has ls 4 [(0, .ref (aM 0)), (1, .int (iI v1)), (2, .int (iI z18.1)), (3, .int (iI z18.2))] → W p l e rmX7_end s m args below meth c H locs 0 0 QQ (F0 m 18 ls []) := by
      intro k18
      induction k18 with
      | zero => intro z18 H locs ls h; exact (lp_0 h).elim
      | succ k18 ih18 =>
        intro z18 H locs ls h Z hl
        obtain ⟨x18, hb18, hx18⟩ := lp_s h
        clear h
        unfold p_X7_end_b18 at hb18
        refine lv_iload_n C.1 C.2.1 dX7_end_18 rfl (lv_at hl 3 rfl) ?_
        refine lv_aload_n C.1 C.2.1 dX7_end_19 rfl (lv_at hl 0 rfl) ?_
        refine x_get C Z 0 rfl rfl i_X7_X7_end (k := 12) (by decide) (List.mem_of_getElem? (i := 1) rfl) rfl dX7_end_20 ?_
        refine x_iconst C dX7_end_23 ?_
        refine x_iald C Z 10 rfl (by decide) (by decide) dX7_end_24 ?_
        have q40 := (ck_some hb18).1
        have h41 := (ck_some hb18).2
        clear hb18
        have q42 := (ck_some h41).1
        have h43 := (ck_some h41).2
        clear h41
        refine x_icmp_ge (tgt := 68) C dX7_end_25 (by decide) q40 q42 (fun c44 => ?_) (fun c44 => ?_)
        · have h45 := if_n h43 c44
          clear h43
          cases h45
          exact hK18 () _ _ _ (lp_R hx18).symm Z (lv_sub hl [] rfl)
        · have h46 := if_p h43 c44
          clear h43
          refine lv_aload_n C.1 C.2.1 dX7_end_28 rfl (lv_at hl 0 rfl) ?_
          refine lv_iload_n C.1 C.2.1 dX7_end_29 rfl (lv_at hl 3 rfl) ?_
          refine x_iconst C dX7_end_30 ?_
          refine lv_aload_n C.1 C.2.1 dX7_end_31 rfl (lv_at hl 0 rfl) ?_
          refine x_get C Z 0 rfl rfl i_X7_X7_end (k := 7) (by decide) (List.mem_of_getElem? (i := 2) rfl) rfl dX7_end_32 ?_
          obtain ⟨r47, hr47, h48⟩ := bd_some h46
          clear h46
          refine x_callV_i_id (As := [.int (iI z18.2), .int (iI 0), .int (iI sMp.padMany)]) (rest := []) (q0 := 0) C Z (k_X7_stands l g n aM sMv sMp r8 sMs sMc sMr z18.2 0 sMp.padMany r47 hr47) gX7_end_X7_stands yk_X7_stands ⟨Nat.le_of_ble_eq_true rfl, Nat.le_of_ble_eq_true rfl⟩ rfl rfl ⟨Nat.zero_le _, Nat.zero_le _⟩ hl.1 rfl (Nat.le_of_ble_eq_true rfl) rfl dX7_end_35 (fun H locs Z => ?_)
          have q49 := (ck_some h48).1
          have h50 := (ck_some h48).2
          clear h48
          refine x_if_eq (tgt := 62) C dX7_end_38 (by decide) q49 (fun c51 => ?_) (fun c51 => ?_)
          · have h52 := if_p h50 c51
            clear h50
            refine x_iinc (lv' := [(3, .int (iI (z18.2 + 1))), (0, .ref (aM 0)), (1, .int (iI v1)), (2, .int (iI z18.1))]) C dX7_end_62 hl (k := 3) rfl (by decide) rfl (fun ls hl => ?_)
            refine lv_goto (tgt := 18) C.1 C.2.1 dX7_end_65 (by decide) ?_
            cases h52
            exact ih18 (z18.1, z18.2 + 1) _ _ _ (lp_L2 hx18) Z (lv_sub hl [1, 2, 3, 0] rfl)
          · have h53 := if_n h50 c51
            clear h50
            refine lv_iload_n C.1 C.2.1 dX7_end_41 rfl (lv_at hl 2 rfl) ?_
            refine lv_iload_n C.1 C.2.1 dX7_end_42 rfl (lv_at hl 1 rfl) ?_
            have q54 := (ck_some h53).1
            have h55 := (ck_some h53).2
            clear h53
            have q56 := (ck_some h55).1
            have h57 := (ck_some h55).2
            clear h55
            refine x_icmp_ne (tgt := 59) C dX7_end_43 (by decide) q54 q56 (fun c58 => ?_) (fun c58 => ?_)
            · have h59 := if_n h57 c58
              clear h57
              refine x_iinc (lv' := [(2, .int (iI (z18.1 + 1))), (0, .ref (aM 0)), (1, .int (iI v1)), (3, .int (iI z18.2))]) C dX7_end_59 hl (k := 2) rfl (by decide) rfl (fun ls hl => ?_)
              refine x_iinc (lv' := [(3, .int (iI (z18.2 + 1))), (2, .int (iI (z18.1 + 1))), (0, .ref (aM 0)), (1, .int (iI v1))]) C dX7_end_62 hl (k := 3) rfl (by decide) rfl (fun ls hl => ?_)
              refine lv_goto (tgt := 18) C.1 C.2.1 dX7_end_65 (by decide) ?_
              cases h59
              exact ih18 (z18.1 + 1, z18.2 + 1) _ _ _ (lp_L2 hx18) Z (lv_sub hl [2, 3, 1, 0] rfl)
            · have h60 := if_p h57 c58
              clear h57
              refine lv_aload_n C.1 C.2.1 dX7_end_46 rfl (lv_at hl 0 rfl) ?_
              refine lv_iload_n C.1 C.2.1 dX7_end_47 rfl (lv_at hl 3 rfl) ?_
              refine lv_aload_n C.1 C.2.1 dX7_end_48 rfl (lv_at hl 0 rfl) ?_
              refine x_get C Z 0 rfl rfl i_X7_X7_end (k := 7) (by decide) (List.mem_of_getElem? (i := 2) rfl) rfl dX7_end_49 ?_
              refine x_iadd C dX7_end_52 ?_
              refine x_iconst C dX7_end_53 ?_
              refine x_isub C dX7_end_54 ?_
              obtain ⟨r61, hr61, h62⟩ := bd_some h60
              clear h60
              refine x_callV_i_id (As := [.int (iI ((z18.2 + sMp.padMany) - 1))]) (rest := []) (q0 := 0) C Z (k_X7_asEnd l g n aM sMv sMp r8 sMs sMc sMr ((z18.2 + sMp.padMany) - 1) r61 hr61) gX7_end_X7_asEnd yk_X7_asEnd ⟨Nat.le_of_ble_eq_true rfl, Nat.le_of_ble_eq_true rfl⟩ rfl rfl ⟨Nat.zero_le _, Nat.zero_le _⟩ hl.1 rfl (Nat.le_of_ble_eq_true rfl) rfl dX7_end_55 (fun H locs Z => ?_)
              cases h62
              have h63 := lp_R hx18
              subst h63
              have h64 := (Sum.elim_inl ..).symm.trans h66
              have h65 := Option.some.inj h64
              subst h65
              exact hRet _ _ _ _ Z dX7_end_58
    exact hL18 n (0, 0) _ _ _ hl18 Z (lv_sub hl [2, 3, 1, 0] rfl)
  · have h7 := if_p h4 c5
    clear h4
    refine x_bipush C dX7_end_7 (by decide) ?_
    have h69 := Option.some.inj h7
    subst h69
    exact hRet _ _ _ _ Z dX7_end_9
abbrev rmX7_isFactor : Room := { frames := 2, cells := 0, slots := 0, locals := 47 }
theorem yk_X7_isFactor : xY yX7_isFactor RX7 cX7_isFactor 4 (some .boolean) wsX7_isFactor rmX7_isFactor 2 := ⟨⟨_, rfl⟩, by decide +kernel, rfl, rfl⟩
theorem i_X7_X7_isFactor : ∀ w ∈ u_ws RX7 TX7 23, w ∈ wsX7_isFactor := fun _ h => List.mem_cons_of_mem _ (List.mem_append_right _ h)
set_option maxHeartbeats 4000000 in
set_option maxRecDepth 100000 in
theorem k_X7_isFactor (l : Launch) (g : xG) (n : Nat) (aM : Nat → Nat) (sMv : MvS) (sMp : MpS) (sMt : MtS) (sMs : MsS) (sMc : McS) (sMr : MrS) (v1 : Int) (v2 : Int) (r : Int) (hf : p_X7_isFactor n sMp sMt v1 v2 = some r) : xMi l yX7_isFactor wsX7_isFactor rmX7_isFactor g [.ref (aM 0), .int (iI v1), .int (iI v2)] (wM g aM sMv sMp sMt sMs sMc sMr) (wM g aM sMv sMp sMt sMs sMc sMr) r := by
  refine x_ofW_z (own := RX7) (by decide) rfl rfl (Nat.le_of_ble_eq_true rfl) ?_
  intro p e s m args below meth c ls A QQ C hRet Z hl
  have hl : lv_has ls 4 [(0, .ref (aM 0)), (1, .int (iI v1)), (2, .int (iI v2))] := hl
  unfold p_X7_isFactor at hf
  refine x_iconst C dX7_isFactor_0 ?_
  refine lv_istore_n (lv' := [(3, .int (iI 0)), (0, .ref (aM 0)), (1, .int (iI v1)), (2, .int (iI v2))]) C.1 C.2.1 dX7_isFactor_1 rfl hl (by decide) rfl (fun ls hl => ?_)
  obtain ⟨ex2, hl2, h39⟩ := bd_some hf
  clear hf
  have hK2 : ∀ (e2 : Unit) (H : Heap) (locs : List Loc) (ls : Array Slot), ex2 = .inr e2 → xSt g A s (wM g aM sMv sMp sMt sMs sMc sMr) H locs → lv_has ls 4 [] → W p l e rmX7_isFactor s m args below meth c H locs 0 0 QQ (F0 m 30 ls []) := by
    intro e2 H locs ls he Z hl
    subst he
    have h40 := (Sum.elim_inr ..).symm.trans h39
    clear h39
    refine x_iconst C dX7_isFactor_30 ?_
    have h41 := Option.some.inj h40
    subst h41
    exact hRet _ _ _ _ (x_bool (Or.inl rfl)) Z dX7_isFactor_31
  have hL2 : ∀ (k2 : Nat) (z2 : Int) (H : Heap) (locs : List Loc) (ls : Array Slot), lp (p_X7_isFactor_b2 n sMp sMt v1 v2) k2 z2 = some ex2 → xSt g A s (wM g aM sMv sMp sMt sMs sMc sMr) H locs → lv_has ls 4 [(0, .ref (aM 0)), (1, .int (iI v1)), (2, .int (iI v2)), (3, .int (iI z2))] → W p l e rmX7_isFactor s m args below meth c H locs 0 0 QQ (F0 m 2 ls []) := by
    intro k2
    induction k2 with
    | zero => intro z2 H locs ls h; exact (lp_0 h).elim
    | succ k2 ih2 =>
      intro z2 H locs ls h Z hl
      obtain ⟨x2, hb2, hx2⟩ := lp_s h
      clear h
      unfold p_X7_isFactor_b2 at hb2
      refine lv_iload_n C.1 C.2.1 dX7_isFactor_2 rfl (lv_at hl 3 rfl) ?_
      refine lv_aload_n C.1 C.2.1 dX7_isFactor_3 rfl (lv_at hl 0 rfl) ?_
      refine x_get C Z 0 rfl rfl i_X7_X7_isFactor (k := 12) (by decide) (List.mem_of_getElem? (i := 1) rfl) rfl dX7_isFactor_4 ?_
      refine x_iconst C dX7_isFactor_7 ?_
      refine x_iald C Z 10 rfl (by decide) (by decide) dX7_isFactor_8 ?_
      have q22 := (ck_some hb2).1
      have h23 := (ck_some hb2).2
      clear hb2
      have q24 := (ck_some h23).1
      have h25 := (ck_some h23).2
      clear h23
      refine x_icmp_ge (tgt := 30) C dX7_isFactor_9 (by decide) q22 q24 (fun c26 => ?_) (fun c26 => ?_)
      · have h27 := if_n h25 c26
        clear h25
        cases h27
        exact hK2 () _ _ _ (lp_R hx2).symm Z (lv_sub hl [] rfl)
      · have h28 := if_p h25 c26
        clear h25
        refine lv_aload_n C.1 C.2.1 dX7_isFactor_12 rfl (lv_at hl 0 rfl) ?_
        refine lv_iload_n C.1 C.2.1 dX7_isFactor_13 rfl (lv_at hl 3 rfl) ?_
        refine lv_iload_n C.1 C.2.1 dX7_isFactor_14 rfl (lv_at hl 1 rfl) ?_
        refine lv_iload_n C.1 C.2.1 dX7_isFactor_15 rfl (lv_at hl 2 rfl) ?_
        obtain ⟨r29, hr29, h30⟩ := bd_some h28
        clear h28
        refine x_callV_i_id (As := [.int (iI z2), .int (iI v1), .int (iI v2)]) (rest := []) (q0 := 0) C Z (k_X7_stands l g n aM sMv sMp sMt sMs sMc sMr z2 v1 v2 r29 hr29) gX7_isFactor_X7_stands yk_X7_stands ⟨Nat.le_of_ble_eq_true rfl, Nat.le_of_ble_eq_true rfl⟩ rfl rfl ⟨Nat.zero_le _, Nat.zero_le _⟩ hl.1 rfl (Nat.le_of_ble_eq_true rfl) rfl dX7_isFactor_16 (fun H locs Z => ?_)
        have q31 := (ck_some h30).1
        have h32 := (ck_some h30).2
        clear h30
        refine x_if_eq (tgt := 24) C dX7_isFactor_19 (by decide) q31 (fun c33 => ?_) (fun c33 => ?_)
        · have h34 := if_p h32 c33
          clear h32
          refine x_iinc (lv' := [(3, .int (iI (z2 + 1))), (0, .ref (aM 0)), (1, .int (iI v1)), (2, .int (iI v2))]) C dX7_isFactor_24 hl (k := 3) rfl (by decide) rfl (fun ls hl => ?_)
          refine lv_goto (tgt := 2) C.1 C.2.1 dX7_isFactor_27 (by decide) ?_
          cases h34
          exact ih2 (z2 + 1) _ _ _ (lp_L2 hx2) Z (lv_sub hl [1, 2, 3, 0] rfl)
        · have h35 := if_n h32 c33
          clear h32
          refine x_iconst C dX7_isFactor_22 ?_
          cases h35
          have h36 := lp_R hx2
          subst h36
          have h37 := (Sum.elim_inl ..).symm.trans h39
          have h38 := Option.some.inj h37
          subst h38
          exact hRet _ _ _ _ (x_bool (Or.inr rfl)) Z dX7_isFactor_23
  exact hL2 n 0 _ _ _ hl2 Z (lv_sub hl [1, 2, 3, 0] rfl)
abbrev rmX7_matches : Room := { frames := 4, cells := 0, slots := 0, locals := 85 }
theorem yk_X7_matches : xY yX7_matches RX7 cX7_matches 3 (some .int) wsX7_matches rmX7_matches 1 := ⟨⟨_, rfl⟩, by decide +kernel, rfl, rfl⟩
theorem i_X7_X7_matches : ∀ w ∈ u_ws RX7 TX7 23, w ∈ wsX7_matches := fun _ h => List.mem_cons_of_mem _ (List.mem_append_right _ h)
set_option maxHeartbeats 4000000 in
set_option maxRecDepth 100000 in
theorem k_X7_matches (l : Launch) (g : xG) (n : Nat) (aM : Nat → Nat) (sMv : MvS) (sMp : MpS) (sMt : MtS) (sMs : MsS) (sMc : McS) (sMr : MrS) (v1 : Int) (r : Int × MtS) (hf : p_X7_matches n sMv sMp sMt v1 = some r) : xMi l yX7_matches wsX7_matches rmX7_matches g [.ref (aM 0), .int (iI v1)] (wM g aM sMv sMp sMt sMs sMc sMr) (wM g aM sMv sMp r.2 sMs sMc sMr) r.1 := by
  refine x_ofW_i (own := RX7) (by decide) rfl rfl (Nat.le_of_ble_eq_true rfl) ?_
  intro p e s m args below meth c ls A QQ C hRet Z hl
  have hl : lv_has ls 3 [(0, .ref (aM 0)), (1, .int (iI v1))] := hl
  unfold p_X7_matches at hf
  refine lv_aload_n C.1 C.2.1 dX7_matches_0 rfl (lv_at hl 0 rfl) ?_
  obtain ⟨r1, hr1, h2⟩ := bd_some hf
  clear hf
  refine x_callV_i_id (As := []) (rest := []) (q0 := 0) C Z (k_X7_isPattern l g n aM sMv sMp sMt sMs sMc sMr r1 hr1) gX7_matches_X7_isPattern yk_X7_isPattern ⟨Nat.le_of_ble_eq_true rfl, Nat.le_of_ble_eq_true rfl⟩ rfl rfl ⟨Nat.zero_le _, Nat.zero_le _⟩ hl.1 rfl (Nat.le_of_ble_eq_true rfl) rfl dX7_matches_1 (fun H locs Z => ?_)
  have q3 := (ck_some h2).1
  have h4 := (ck_some h2).2
  clear h2
  refine x_if_ne (tgt := 10) C dX7_matches_4 (by decide) q3 (fun c5 => ?_) (fun c5 => ?_)
  · have h6 := if_n h4 c5
    clear h4
    refine lv_iload_n C.1 C.2.1 dX7_matches_10 rfl (lv_at hl 1 rfl) ?_
    refine x_iconst C dX7_matches_11 ?_
    refine lv_aload_n C.1 C.2.1 dX7_matches_12 rfl (lv_at hl 0 rfl) ?_
    refine x_get C Z 0 rfl rfl i_X7_X7_matches (k := 7) (by decide) (List.mem_of_getElem? (i := 1) rfl) rfl dX7_matches_13 ?_
    obtain ⟨r8, hr8, h9⟩ := bd_some h6
    clear h6
    refine x_callS_i (As := [.int (iI v1), .int (iI 1), .int (iI sMp.padMany)]) (rest := []) C Z (k_X7_in l g n v1 1 sMp.padMany r8 hr8) gX7_matches_X7_in yk_X7_in ⟨Nat.le_of_ble_eq_true rfl, Nat.le_of_ble_eq_true rfl⟩ ⟨Nat.zero_le _, Nat.zero_le _⟩ hl.1 rfl (Nat.le_of_ble_eq_true rfl) rfl dX7_matches_16 (fun H locs Z => ?_)
    have q10 := (ck_some h9).1
    have h11 := (ck_some h9).2
    clear h9
    refine x_if_ne (tgt := 25) C dX7_matches_19 (by decide) q10 (fun c12 => ?_) (fun c12 => ?_)
    · have h13 := if_n h11 c12
      clear h11
      refine lv_aload_n C.1 C.2.1 dX7_matches_25 rfl (lv_at hl 0 rfl) ?_
      obtain ⟨r15, hr15, h16⟩ := bd_some h13
      clear h13
      refine x_callV_v_id (As := []) (rest := []) (q0 := 0) C Z (k_X7_layPresent l g n aM sMv sMp sMt sMs sMc sMr r15 hr15) gX7_matches_X7_layPresent yk_X7_layPresent ⟨Nat.le_of_ble_eq_true rfl, Nat.le_of_ble_eq_true rfl⟩ rfl rfl ⟨Nat.zero_le _, Nat.zero_le _⟩ hl.1 rfl (Nat.le_of_ble_eq_true rfl) rfl dX7_matches_26 (fun H locs Z => ?_)
      refine lv_iload_n C.1 C.2.1 dX7_matches_29 rfl (lv_at hl 1 rfl) ?_
      refine lv_istore_n (lv' := [(2, .int (iI v1)), (0, .ref (aM 0)), (1, .int (iI v1))]) C.1 C.2.1 dX7_matches_30 rfl hl (by decide) rfl (fun ls hl => ?_)
      obtain ⟨ex31, hl31, h45⟩ := bd_some h16
      clear h16
      have hK31 : ∀ (H : Heap) (locs : List Loc) (ls : Array Slot), xSt g A s (wM g aM sMv sMp r15 sMs sMc sMr) H locs → lv_has ls 3 [(2, .int (iI ex31))] → W p l e rmX7_matches s m args below meth c H locs 0 0 QQ (F0 m 52 ls []) := by
        intro H locs ls Z hl
        have h46 := h45
        clear h45
        refine lv_iload_n C.1 C.2.1 dX7_matches_52 rfl (lv_at hl 0 rfl) ?_
        have h47 := Option.some.inj h46
        subst h47
        exact hRet _ _ _ _ Z dX7_matches_53
      have hL31 : ∀ (k31 : Nat) (z31 : Int) (H : Heap) (locs : List Loc) (ls : Array Slot), lp (p_X7_matches_b31 n sMp r15 v1) k31 z31 = some ex31 → xSt g A s (wM g aM sMv sMp r15 sMs sMc sMr) H locs → lv_has ls 3 [(0, .ref (aM 0)), (1, .int (iI v1)), (2, .int (iI z31))] → W p l e rmX7_matches s m args below meth c H locs 0 0 QQ (F0 m 31 ls []) := by
        intro k31
        induction k31 with
        | zero => intro z31 H locs ls h; exact (lp_0 h).elim
        | succ k31 ih31 =>
          intro z31 H locs ls h Z hl
          obtain ⟨x31, hb31, hx31⟩ := lp_s h
          clear h
          unfold p_X7_matches_b31 at hb31
          refine lv_iload_n C.1 C.2.1 dX7_matches_31 rfl (lv_at hl 2 rfl) ?_
          have q31 := (ck_some hb31).1
          have h32 := (ck_some hb31).2
          clear hb31
          refine x_if_le (tgt := 52) C dX7_matches_32 (by decide) q31 (fun c33 => ?_) (fun c33 => ?_)
          · have h34 := if_n h32 c33
            clear h32
            cases h34
            have h36 := lp_R hx31
            subst h36
            exact hK31 _ _ _ Z (lv_sub hl [2] rfl)
          · have h35 := if_p h32 c33
            clear h32
            refine lv_aload_n C.1 C.2.1 dX7_matches_35 rfl (lv_at hl 0 rfl) ?_
            refine lv_iload_n C.1 C.2.1 dX7_matches_36 rfl (lv_at hl 1 rfl) ?_
            refine lv_iload_n C.1 C.2.1 dX7_matches_37 rfl (lv_at hl 2 rfl) ?_
            refine x_isub C dX7_matches_38 ?_
            refine lv_iload_n C.1 C.2.1 dX7_matches_39 rfl (lv_at hl 2 rfl) ?_
            obtain ⟨r37, hr37, h38⟩ := bd_some h35
            clear h35
            refine x_callV_i_id (As := [.int (iI (v1 - z31)), .int (iI z31)]) (rest := []) (q0 := 0) C Z (k_X7_isFactor l g n aM sMv sMp r15 sMs sMc sMr (v1 - z31) z31 r37 hr37) gX7_matches_X7_isFactor yk_X7_isFactor ⟨Nat.le_of_ble_eq_true rfl, Nat.le_of_ble_eq_true rfl⟩ rfl rfl ⟨Nat.zero_le _, Nat.zero_le _⟩ hl.1 rfl (Nat.le_of_ble_eq_true rfl) rfl dX7_matches_40 (fun H locs Z => ?_)
            have q39 := (ck_some h38).1
            have h40 := (ck_some h38).2
            clear h38
            refine x_if_ne (tgt := 52) C dX7_matches_43 (by decide) q39 (fun c41 => ?_) (fun c41 => ?_)
            · have h42 := if_n h40 c41
              clear h40
              cases h42
              have h44 := lp_R hx31
              subst h44
              exact hK31 _ _ _ Z (lv_sub hl [2] rfl)
            · have h43 := if_p h40 c41
              clear h40
              refine x_iinc (lv' := [(2, .int (iI (z31 + (-1)))), (0, .ref (aM 0)), (1, .int (iI v1))]) C dX7_matches_46 hl (k := 2) rfl (by decide) rfl (fun ls hl => ?_)
              refine lv_goto (tgt := 31) C.1 C.2.1 dX7_matches_49 (by decide) ?_
              cases h43
              exact ih31 (z31 + (-1)) _ _ _ (lp_L2 hx31) Z (lv_sub hl [1, 2, 0] rfl)
      exact hL31 n v1 _ _ _ hl31 Z (lv_sub hl [1, 2, 0] rfl)
    · have h14 := if_p h11 c12
      clear h11
      refine x_bipush C dX7_matches_22 (by decide) ?_
      have h48 := Option.some.inj h14
      subst h48
      exact hRet _ _ _ _ Z dX7_matches_24
  · have h7 := if_p h4 c5
    clear h4
    refine x_bipush C dX7_matches_7 (by decide) ?_
    have h49 := Option.some.inj h7
    subst h49
    exact hRet _ _ _ _ Z dX7_matches_9
abbrev rmX7_parts : Room := { frames := 4, cells := 0, slots := 0, locals := 85 }
theorem yk_X7_parts : xY yX7_parts RX7 cX7_parts 4 (some .int) wsX7_parts rmX7_parts 0 := ⟨⟨_, rfl⟩, by decide +kernel, rfl, rfl⟩
theorem i_X7_X7_parts : ∀ w ∈ u_ws RX7 TX7 23, w ∈ wsX7_parts := fun _ h => List.mem_cons_of_mem _ (List.mem_append_right _ h)
set_option maxHeartbeats 4000000 in
set_option maxRecDepth 100000 in
theorem k_X7_parts (l : Launch) (g : xG) (n : Nat) (aM : Nat → Nat) (sMv : MvS) (sMp : MpS) (sMt : MtS) (sMs : MsS) (sMc : McS) (sMr : MrS) (r : Int × MtS) (hf : p_X7_parts n sMv sMp sMt = some r) : xMi l yX7_parts wsX7_parts rmX7_parts g [.ref (aM 0)] (wM g aM sMv sMp sMt sMs sMc sMr) (wM g aM sMv sMp r.2 sMs sMc sMr) r.1 := by
  refine x_ofW_i (own := RX7) (by decide) rfl rfl (Nat.le_of_ble_eq_true rfl) ?_
  intro p e s m args below meth c ls A QQ C hRet Z hl
  have hl : lv_has ls 4 [(0, .ref (aM 0))] := hl
  unfold p_X7_parts at hf
  refine lv_aload_n C.1 C.2.1 dX7_parts_0 rfl (lv_at hl 0 rfl) ?_
  obtain ⟨r1, hr1, h2⟩ := bd_some hf
  clear hf
  refine x_callV_i_id (As := []) (rest := []) (q0 := 0) C Z (k_X7_isPattern l g n aM sMv sMp sMt sMs sMc sMr r1 hr1) gX7_parts_X7_isPattern yk_X7_isPattern ⟨Nat.le_of_ble_eq_true rfl, Nat.le_of_ble_eq_true rfl⟩ rfl rfl ⟨Nat.zero_le _, Nat.zero_le _⟩ hl.1 rfl (Nat.le_of_ble_eq_true rfl) rfl dX7_parts_1 (fun H locs Z => ?_)
  have q3 := (ck_some h2).1
  have h4 := (ck_some h2).2
  clear h2
  refine x_if_ne (tgt := 10) C dX7_parts_4 (by decide) q3 (fun c5 => ?_) (fun c5 => ?_)
  · have h6 := if_n h4 c5
    clear h4
    refine lv_aload_n C.1 C.2.1 dX7_parts_10 rfl (lv_at hl 0 rfl) ?_
    obtain ⟨r8, hr8, h9⟩ := bd_some h6
    clear h6
    refine x_callV_v_id (As := []) (rest := []) (q0 := 0) C Z (k_X7_layPresent l g n aM sMv sMp sMt sMs sMc sMr r8 hr8) gX7_parts_X7_layPresent yk_X7_layPresent ⟨Nat.le_of_ble_eq_true rfl, Nat.le_of_ble_eq_true rfl⟩ rfl rfl ⟨Nat.zero_le _, Nat.zero_le _⟩ hl.1 rfl (Nat.le_of_ble_eq_true rfl) rfl dX7_parts_11 (fun H locs Z => ?_)
    refine x_iconst C dX7_parts_14 ?_
    refine lv_istore_n (lv' := [(1, .int (iI 0)), (0, .ref (aM 0))]) C.1 C.2.1 dX7_parts_15 rfl hl (by decide) rfl (fun ls hl => ?_)
    refine x_iconst C dX7_parts_16 ?_
    refine lv_istore_n (lv' := [(2, .int (iI 0)), (1, .int (iI 0)), (0, .ref (aM 0))]) C.1 C.2.1 dX7_parts_17 rfl hl (by decide) rfl (fun ls hl => ?_)
    obtain ⟨ex18, hl18, h100⟩ := bd_some h9
    clear h9
    have hK18 : ∀ (e18 : Int) (H : Heap) (locs : List Loc) (ls : Array Slot), ex18 = .inr e18 → xSt g A s (wM g aM sMv sMp r8 sMs sMc sMr) H locs → lv_has ls 4 [(1, .int (iI e18))] → W p l e rmX7_parts s m args below meth c H locs 0 0 QQ (F0 m 69 ls []) := by
      intro e18 H locs ls he Z hl
      subst he
      have h101 := (Sum.elim_inr ..).symm.trans h100
      clear h100
      refine lv_iload_n C.1 C.2.1 dX7_parts_69 rfl (lv_at hl 0 rfl) ?_
      have h102 := Option.some.inj h101
      subst h102
      exact hRet _ _ _ _ Z dX7_parts_70
    have hL18 : ∀ (k18 : Nat) (z18 : Int × Int) (H : Heap) (locs : List Loc) (ls : Array Slot), lp (p_X7_parts_b18 n sMp r8) k18 z18 = some ex18 → xSt g A s (wM g aM sMv sMp r8 sMs sMc sMr) H locs → lv_has ls 4 [(0, .ref (aM 0)), (1, .int (iI z18.1)), (2, .int (iI z18.2))] → W p l e rmX7_parts s m args below meth c H locs 0 0 QQ (F0 m 18 ls []) := by
      intro k18
      induction k18 with
      | zero => intro z18 H locs ls h; exact (lp_0 h).elim
      | succ k18 ih18 =>
        intro z18 H locs ls h Z hl
        obtain ⟨x18, hb18, hx18⟩ := lp_s h
        clear h
        unfold p_X7_parts_b18 at hb18
        refine lv_iload_n C.1 C.2.1 dX7_parts_18 rfl (lv_at hl 2 rfl) ?_
        refine lv_aload_n C.1 C.2.1 dX7_parts_19 rfl (lv_at hl 0 rfl) ?_
        refine x_get C Z 0 rfl rfl i_X7_X7_parts (k := 7) (by decide) (List.mem_of_getElem? (i := 1) rfl) rfl dX7_parts_20 ?_
        have q55 := (ck_some hb18).1
        have h56 := (ck_some hb18).2
        clear hb18
        have q57 := (ck_some h56).1
        have h58 := (ck_some h56).2
        clear h56
        refine x_icmp_ge (tgt := 69) C dX7_parts_23 (by decide) q55 q57 (fun c59 => ?_) (fun c59 => ?_)
        · have h60 := if_n h58 c59
          clear h58
          cases h60
          exact hK18 z18.1 _ _ _ (lp_R hx18).symm Z (lv_sub hl [1] rfl)
        · have h61 := if_p h58 c59
          clear h58
          refine lv_aload_n C.1 C.2.1 dX7_parts_26 rfl (lv_at hl 0 rfl) ?_
          refine x_get C Z 0 rfl rfl i_X7_X7_parts (k := 7) (by decide) (List.mem_of_getElem? (i := 1) rfl) rfl dX7_parts_27 ?_
          refine lv_iload_n C.1 C.2.1 dX7_parts_30 rfl (lv_at hl 2 rfl) ?_
          refine x_isub C dX7_parts_31 ?_
          refine lv_istore_n (lv' := [(3, .int (iI (sMp.padMany - z18.2))), (0, .ref (aM 0)), (1, .int (iI z18.1)), (2, .int (iI z18.2))]) C.1 C.2.1 dX7_parts_32 rfl hl (by decide) rfl (fun ls hl => ?_)
          obtain ⟨ex33, hl33, h90⟩ := bd_some h61
          clear h61
          have hK33 : ∀ (H : Heap) (locs : List Loc) (ls : Array Slot), xSt g A s (wM g aM sMv sMp r8 sMs sMc sMr) H locs → lv_has ls 4 [(0, .ref (aM 0)), (1, .int (iI z18.1)), (2, .int (iI z18.2)), (3, .int (iI ex33))] → W p l e rmX7_parts s m args below meth c H locs 0 0 QQ (F0 m 52 ls []) := by
            intro H locs ls Z hl
            have h91 := h90
            clear h90
            refine lv_iload_n C.1 C.2.1 dX7_parts_52 rfl (lv_at hl 3 rfl) ?_
            have q92 := (ck_some h91).1
            have h93 := (ck_some h91).2
            clear h91
            refine x_if_ne (tgt := 59) C dX7_parts_53 (by decide) q92 (fun c94 => ?_) (fun c94 => ?_)
            · have h95 := if_n h93 c94
              clear h93
              refine lv_iload_n C.1 C.2.1 dX7_parts_59 rfl (lv_at hl 2 rfl) ?_
              refine lv_iload_n C.1 C.2.1 dX7_parts_60 rfl (lv_at hl 3 rfl) ?_
              refine x_iadd C dX7_parts_61 ?_
              refine lv_istore_n (lv' := [(2, .int (iI (z18.2 + ex33))), (0, .ref (aM 0)), (1, .int (iI z18.1)), (3, .int (iI ex33))]) C.1 C.2.1 dX7_parts_62 rfl hl (by decide) rfl (fun ls hl => ?_)
              refine x_iinc (lv' := [(1, .int (iI (z18.1 + 1))), (2, .int (iI (z18.2 + ex33))), (0, .ref (aM 0)), (3, .int (iI ex33))]) C dX7_parts_63 hl (k := 2) rfl (by decide) rfl (fun ls hl => ?_)
              refine lv_goto (tgt := 18) C.1 C.2.1 dX7_parts_66 (by decide) ?_
              cases h95
              exact ih18 (z18.1 + 1, z18.2 + ex33) _ _ _ (lp_L2 hx18) Z (lv_sub hl [2, 0, 1] rfl)
            · have h96 := if_p h93 c94
              clear h93
              refine x_bipush C dX7_parts_56 (by decide) ?_
              cases h96
              have h97 := lp_R hx18
              subst h97
              have h98 := (Sum.elim_inl ..).symm.trans h100
              have h99 := Option.some.inj h98
              subst h99
              exact hRet _ _ _ _ Z dX7_parts_58
          have hL33 : ∀ (k33 : Nat) (z33 : Int) (H : Heap) (locs : List Loc) (ls : Array Slot), lp (p_X7_parts_b33 n sMp r8 z18.2) k33 z33 = some ex33 → xSt g A s (wM g aM sMv sMp r8 sMs sMc sMr) H locs → lv_has ls 4 [(0, .ref (aM 0)), (1, .int (iI z18.1)), (2, .int (iI z18.2)), (3, .int (iI z33))] → W p l e rmX7_parts s m args below meth c H locs 0 0 QQ (F0 m 33 ls []) := by
            intro k33
            induction k33 with
            | zero => intro z33 H locs ls h; exact (lp_0 h).elim
            | succ k33 ih33 =>
              intro z33 H locs ls h Z hl
              obtain ⟨x33, hb33, hx33⟩ := lp_s h
              clear h
              unfold p_X7_parts_b33 at hb33
              refine lv_iload_n C.1 C.2.1 dX7_parts_33 rfl (lv_at hl 3 rfl) ?_
              have q76 := (ck_some hb33).1
              have h77 := (ck_some hb33).2
              clear hb33
              refine x_if_le (tgt := 52) C dX7_parts_34 (by decide) q76 (fun c78 => ?_) (fun c78 => ?_)
              · have h79 := if_n h77 c78
                clear h77
                cases h79
                have h81 := lp_R hx33
                subst h81
                exact hK33 _ _ _ Z (lv_sub hl [0, 1, 2, 3] rfl)
              · have h80 := if_p h77 c78
                clear h77
                refine lv_aload_n C.1 C.2.1 dX7_parts_37 rfl (lv_at hl 0 rfl) ?_
                refine lv_iload_n C.1 C.2.1 dX7_parts_38 rfl (lv_at hl 2 rfl) ?_
                refine lv_iload_n C.1 C.2.1 dX7_parts_39 rfl (lv_at hl 3 rfl) ?_
                obtain ⟨r82, hr82, h83⟩ := bd_some h80
                clear h80
                refine x_callV_i_id (As := [.int (iI z18.2), .int (iI z33)]) (rest := []) (q0 := 0) C Z (k_X7_isFactor l g n aM sMv sMp r8 sMs sMc sMr z18.2 z33 r82 hr82) gX7_parts_X7_isFactor yk_X7_isFactor ⟨Nat.le_of_ble_eq_true rfl, Nat.le_of_ble_eq_true rfl⟩ rfl rfl ⟨Nat.zero_le _, Nat.zero_le _⟩ hl.1 rfl (Nat.le_of_ble_eq_true rfl) rfl dX7_parts_40 (fun H locs Z => ?_)
                have q84 := (ck_some h83).1
                have h85 := (ck_some h83).2
                clear h83
                refine x_if_ne (tgt := 52) C dX7_parts_43 (by decide) q84 (fun c86 => ?_) (fun c86 => ?_)
                · have h87 := if_n h85 c86
                  clear h85
                  cases h87
                  have h89 := lp_R hx33
                  subst h89
                  exact hK33 _ _ _ Z (lv_sub hl [0, 1, 2, 3] rfl)
                · have h88 := if_p h85 c86
                  clear h85
                  refine x_iinc (lv' := [(3, .int (iI (z33 + (-1)))), (0, .ref (aM 0)), (1, .int (iI z18.1)), (2, .int (iI z18.2))]) C dX7_parts_46 hl (k := 3) rfl (by decide) rfl (fun ls hl => ?_)
                  refine lv_goto (tgt := 33) C.1 C.2.1 dX7_parts_49 (by decide) ?_
                  cases h88
                  exact ih33 (z33 + (-1)) _ _ _ (lp_L2 hx33) Z (lv_sub hl [1, 2, 3, 0] rfl)
          exact hL33 n (sMp.padMany - z18.2) _ _ _ hl33 Z (lv_sub hl [1, 2, 3, 0] rfl)
    exact hL18 n (0, 0) _ _ _ hl18 Z (lv_sub hl [2, 1, 0] rfl)
  · have h7 := if_p h4 c5
    clear h4
    refine x_bipush C dX7_parts_7 (by decide) ?_
    have h103 := Option.some.inj h7
    subst h103
    exact hRet _ _ _ _ Z dX7_parts_9
abbrev rmX7_endsOf : Room := { frames := 0, cells := 0, slots := 0, locals := 0 }
theorem yk_X7_endsOf : xY yX7_endsOf RX7 cX7_endsOf 4 (some .int) wsX7_endsOf rmX7_endsOf 2 := ⟨⟨_, rfl⟩, by decide +kernel, rfl, rfl⟩
theorem i_X7_X7_endsOf : ∀ w ∈ u_ws RX7 TX7 23, w ∈ wsX7_endsOf := fun _ h => List.mem_cons_of_mem _ (List.mem_append_right _ h)
set_option maxHeartbeats 4000000 in
set_option maxRecDepth 100000 in
theorem k_X7_endsOf (l : Launch) (g : xG) (n : Nat) (aM : Nat → Nat) (sMv : MvS) (sMp : MpS) (sMt : MtS) (sMs : MsS) (sMc : McS) (sMr : MrS) (v1 : Int) (v2 : Int) (r : Int) (hf : p_X7_endsOf n sMt sMs v1 v2 = some r) : xMi l yX7_endsOf wsX7_endsOf rmX7_endsOf g [.ref (aM 0), .int (iI v1), .int (iI v2)] (wM g aM sMv sMp sMt sMs sMc sMr) (wM g aM sMv sMp sMt sMs sMc sMr) r := by
  refine x_ofW_i (own := RX7) (by decide) rfl rfl (Nat.le_of_ble_eq_true rfl) ?_
  intro p e s m args below meth c ls A QQ C hRet Z hl
  have hl : lv_has ls 4 [(0, .ref (aM 0)), (1, .int (iI v1)), (2, .int (iI v2))] := hl
  unfold p_X7_endsOf at hf
  refine lv_iload_n C.1 C.2.1 dX7_endsOf_0 rfl (lv_at hl 1 rfl) ?_
  refine x_iconst C dX7_endsOf_1 ?_
  refine x_iadd C dX7_endsOf_2 ?_
  refine lv_istore_n (lv' := [(3, .int (iI (v1 + 1))), (0, .ref (aM 0)), (1, .int (iI v1)), (2, .int (iI v2))]) C.1 C.2.1 dX7_endsOf_3 rfl hl (by decide) rfl (fun ls hl => ?_)
  obtain ⟨ex4, hl4, h41⟩ := bd_some hf
  clear hf
  have hK4 : ∀ (H : Heap) (locs : List Loc) (ls : Array Slot), xSt g A s (wM g aM sMv sMp sMt sMs sMc sMr) H locs → lv_has ls 4 [(1, .int (iI v1)), (3, .int (iI ex4))] → W p l e rmX7_endsOf s m args below meth c H locs 0 0 QQ (F0 m 30 ls []) := by
    intro H locs ls Z hl
    have h42 := h41
    clear h41
    refine lv_iload_n C.1 C.2.1 dX7_endsOf_30 rfl (lv_at hl 1 rfl) ?_
    refine lv_iload_n C.1 C.2.1 dX7_endsOf_31 rfl (lv_at hl 0 rfl) ?_
    refine x_isub C dX7_endsOf_32 ?_
    have h43 := Option.some.inj h42
    subst h43
    exact hRet _ _ _ _ Z dX7_endsOf_33
  have hL4 : ∀ (k4 : Nat) (z4 : Int) (H : Heap) (locs : List Loc) (ls : Array Slot), lp (p_X7_endsOf_b4 n sMt sMs v2) k4 z4 = some ex4 → xSt g A s (wM g aM sMv sMp sMt sMs sMc sMr) H locs → lv_has ls 4 [(0, .ref (aM 0)), (1, .int (iI v1)), (2, .int (iI v2)), (3, .int (iI z4))] → W p l e rmX7_endsOf s m args below meth c H locs 0 0 QQ (F0 m 4 ls []) := by
    intro k4
    induction k4 with
    | zero => intro z4 H locs ls h; exact (lp_0 h).elim
    | succ k4 ih4 =>
      intro z4 H locs ls h Z hl
      obtain ⟨x4, hb4, hx4⟩ := lp_s h
      clear h
      unfold p_X7_endsOf_b4 at hb4
      refine lv_iload_n C.1 C.2.1 dX7_endsOf_4 rfl (lv_at hl 3 rfl) ?_
      refine lv_aload_n C.1 C.2.1 dX7_endsOf_5 rfl (lv_at hl 0 rfl) ?_
      refine x_get C Z 0 rfl rfl i_X7_X7_endsOf (k := 12) (by decide) (List.mem_of_getElem? (i := 1) rfl) rfl dX7_endsOf_6 ?_
      refine x_iconst C dX7_endsOf_9 ?_
      refine x_iald C Z 10 rfl (by decide) (by decide) dX7_endsOf_10 ?_
      have q23 := (ck_some hb4).1
      have h24 := (ck_some hb4).2
      clear hb4
      have q25 := (ck_some h24).1
      have h26 := (ck_some h24).2
      clear h24
      refine x_icmp_ge (tgt := 30) C dX7_endsOf_11 (by decide) q23 q25 (fun c27 => ?_) (fun c27 => ?_)
      · have h28 := if_n h26 c27
        clear h26
        cases h28
        have h30 := lp_R hx4
        subst h30
        exact hK4 _ _ _ Z (lv_sub hl [1, 3] rfl)
      · have h29 := if_p h26 c27
        clear h26
        refine lv_aload_n C.1 C.2.1 dX7_endsOf_14 rfl (lv_at hl 0 rfl) ?_
        refine x_get C Z 0 rfl rfl i_X7_X7_endsOf (k := 16) (by decide) (List.mem_of_getElem? (i := 2) rfl) rfl dX7_endsOf_15 ?_
        refine lv_iload_n C.1 C.2.1 dX7_endsOf_18 rfl (lv_at hl 3 rfl) ?_
        have q31 := (ix_some h29).1
        have h32 := (ix_some h29).2
        clear h29
        refine x_iald C Z 14 rfl (by decide) q31 dX7_endsOf_19 ?_
        refine lv_iload_n C.1 C.2.1 dX7_endsOf_20 rfl (lv_at hl 2 rfl) ?_
        have q33 := (ck_some h32).1
        have h34 := (ck_some h32).2
        clear h32
        have q35 := (ck_some h34).1
        have h36 := (ck_some h34).2
        clear h34
        refine x_icmp_lt (tgt := 30) C dX7_endsOf_21 (by decide) q33 q35 (fun c37 => ?_) (fun c37 => ?_)
        · have h38 := if_p h36 c37
          clear h36
          cases h38
          have h40 := lp_R hx4
          subst h40
          exact hK4 _ _ _ Z (lv_sub hl [1, 3] rfl)
        · have h39 := if_n h36 c37
          clear h36
          refine x_iinc (lv' := [(3, .int (iI (z4 + 1))), (0, .ref (aM 0)), (1, .int (iI v1)), (2, .int (iI v2))]) C dX7_endsOf_24 hl (k := 3) rfl (by decide) rfl (fun ls hl => ?_)
          refine lv_goto (tgt := 4) C.1 C.2.1 dX7_endsOf_27 (by decide) ?_
          cases h39
          exact ih4 (z4 + 1) _ _ _ (lp_L2 hx4) Z (lv_sub hl [1, 2, 3, 0] rfl)
  exact hL4 n (v1 + 1) _ _ _ hl4 Z (lv_sub hl [1, 2, 3, 0] rfl)
abbrev rmX7_factors : Room := { frames := 4, cells := 0, slots := 0, locals := 93 }
theorem yk_X7_factors : xY yX7_factors RX7 cX7_factors 6 (some .int) wsX7_factors rmX7_factors 2 := ⟨⟨_, rfl⟩, by decide +kernel, rfl, rfl⟩
theorem i_X7_X7_factors : ∀ w ∈ u_ws RX7 TX7 23, w ∈ wsX7_factors := fun _ h => List.mem_cons_of_mem _ (List.mem_append_right _ h)
set_option maxHeartbeats 4000000 in
set_option maxRecDepth 100000 in
theorem k_X7_factors (l : Launch) (g : xG) (n : Nat) (aM : Nat → Nat) (sMv : MvS) (sMp : MpS) (sMt : MtS) (sMs : MsS) (sMc : McS) (sMr : MrS) (v1 : Int) (v2 : Int) (r : Int × MtS × MsS) (hf : p_X7_factors n sMv sMt sMs v1 v2 = some r) : xMi l yX7_factors wsX7_factors rmX7_factors g [.ref (aM 0), .int (iI v1), .int (iI v2)] (wM g aM sMv sMp sMt sMs sMc sMr) (wM g aM sMv sMp r.2.1 r.2.2 sMc sMr) r.1 := by
  refine x_ofW_i (own := RX7) (by decide) rfl rfl (Nat.le_of_ble_eq_true rfl) ?_
  intro p e s m args below meth c ls A QQ C hRet Z hl
  have hl : lv_has ls 6 [(0, .ref (aM 0)), (1, .int (iI v1)), (2, .int (iI v2))] := hl
  unfold p_X7_factors at hf
  refine lv_iload_n C.1 C.2.1 dX7_factors_0 rfl (lv_at hl 1 rfl) ?_
  refine x_iconst C dX7_factors_1 ?_
  refine x_bipush C dX7_factors_2 (by decide) ?_
  obtain ⟨r1, hr1, h2⟩ := bd_some hf
  clear hf
  refine x_callS_i (As := [.int (iI v1), .int (iI 1), .int (iI 60)]) (rest := []) C Z (k_X7_in l g n v1 1 60 r1 hr1) gX7_factors_X7_in yk_X7_in ⟨Nat.le_of_ble_eq_true rfl, Nat.le_of_ble_eq_true rfl⟩ ⟨Nat.zero_le _, Nat.zero_le _⟩ hl.1 rfl (Nat.le_of_ble_eq_true rfl) rfl dX7_factors_4 (fun H locs Z => ?_)
  have q3 := (ck_some h2).1
  have h4 := (ck_some h2).2
  clear h2
  refine x_if_eq (tgt := 20) C dX7_factors_7 (by decide) q3 (fun c5 => ?_) (fun c5 => ?_)
  · have h6 := if_p h4 c5
    clear h4
    refine x_bipush C dX7_factors_20 (by decide) ?_
    have h8 := Option.some.inj h6
    subst h8
    exact hRet _ _ _ _ Z dX7_factors_22
  · have h7 := if_n h4 c5
    clear h4
    refine lv_iload_n C.1 C.2.1 dX7_factors_10 rfl (lv_at hl 2 rfl) ?_
    refine x_iconst C dX7_factors_11 ?_
    refine x_bipush C dX7_factors_12 (by decide) ?_
    obtain ⟨r9, hr9, h10⟩ := bd_some h7
    clear h7
    refine x_callS_i (As := [.int (iI v2), .int (iI 0), .int (iI 60)]) (rest := []) C Z (k_X7_in l g n v2 0 60 r9 hr9) gX7_factors_X7_in yk_X7_in ⟨Nat.le_of_ble_eq_true rfl, Nat.le_of_ble_eq_true rfl⟩ ⟨Nat.zero_le _, Nat.zero_le _⟩ hl.1 rfl (Nat.le_of_ble_eq_true rfl) rfl dX7_factors_14 (fun H locs Z => ?_)
    have q11 := (ck_some h10).1
    have h12 := (ck_some h10).2
    clear h10
    refine x_if_ne (tgt := 23) C dX7_factors_17 (by decide) q11 (fun c13 => ?_) (fun c13 => ?_)
    · have h14 := if_n h12 c13
      clear h12
      refine lv_aload_n C.1 C.2.1 dX7_factors_23 rfl (lv_at hl 0 rfl) ?_
      obtain ⟨r16, hr16, h17⟩ := bd_some h14
      clear h14
      refine x_callV_v_id (As := []) (rest := []) (q0 := 0) C Z (k_X7_layPresent l g n aM sMv sMp sMt sMs sMc sMr r16 hr16) gX7_factors_X7_layPresent yk_X7_layPresent ⟨Nat.le_of_ble_eq_true rfl, Nat.le_of_ble_eq_true rfl⟩ rfl rfl ⟨Nat.zero_le _, Nat.zero_le _⟩ hl.1 rfl (Nat.le_of_ble_eq_true rfl) rfl dX7_factors_24 (fun H locs Z => ?_)
      refine lv_aload_n C.1 C.2.1 dX7_factors_27 rfl (lv_at hl 0 rfl) ?_
      obtain ⟨r18, hr18, h19⟩ := bd_some h17
      clear h17
      refine x_callV_v_id (As := []) (rest := []) (q0 := 0) C Z (k_X7_sort l g n aM sMv sMp r16 sMs sMc sMr r18 hr18) gX7_factors_X7_sort yk_X7_sort ⟨Nat.le_of_ble_eq_true rfl, Nat.le_of_ble_eq_true rfl⟩ rfl rfl ⟨Nat.zero_le _, Nat.zero_le _⟩ hl.1 rfl (Nat.le_of_ble_eq_true rfl) rfl dX7_factors_28 (fun H locs Z => ?_)
      refine x_iconst C dX7_factors_31 ?_
      refine lv_istore_n (lv' := [(3, .int (iI 0)), (0, .ref (aM 0)), (1, .int (iI v1)), (2, .int (iI v2))]) C.1 C.2.1 dX7_factors_32 rfl hl (by decide) rfl (fun ls hl => ?_)
      refine x_iconst C dX7_factors_33 ?_
      refine lv_istore (lv' := [(4, .int (iI 0)), (3, .int (iI 0)), (0, .ref (aM 0)), (1, .int (iI v1)), (2, .int (iI v2))]) C.1 C.2.1 dX7_factors_34 hl (by decide) rfl (fun ls hl => ?_)
      obtain ⟨ex36, hl36, h166⟩ := bd_some h19
      clear h19
      have hK36 : ∀ (H : Heap) (locs : List Loc) (ls : Array Slot), xSt g A s (wM g aM sMv sMp r16 r18 sMc sMr) H locs → lv_has ls 6 [(3, .int (iI ex36))] → W p l e rmX7_factors s m args below meth c H locs 0 0 QQ (F0 m 117 ls []) := by
        intro H locs ls Z hl
        have h167 := h166
        clear h166
        refine lv_iload_n C.1 C.2.1 dX7_factors_117 rfl (lv_at hl 0 rfl) ?_
        have h168 := Option.some.inj h167
        subst h168
        exact hRet _ _ _ _ Z dX7_factors_118
      have hL36 : ∀ (k36 : Nat) (z36 : Int × Int) (H : Heap) (locs : List Loc) (ls : Array Slot), lp (p_X7_factors_b36 n r16 r18 v1 v2) k36 z36 = some ex36 → xSt g A s (wM g aM sMv sMp r16 r18 sMc sMr) H locs → lv_has ls 6 [(0, .ref (aM 0)), (1, .int (iI v1)), (2, .int (iI v2)), (3, .int (iI z36.1)), (4, .int (iI z36.2))] → W p l e rmX7_factors s m args below meth c H locs 0 0 QQ (F0 m 36 ls []) := by
        intro k36
        induction k36 with
        | zero => intro z36 H locs ls h; exact (lp_0 h).elim
        | succ k36 ih36 =>
          intro z36 H locs ls h Z hl
          obtain ⟨x36, hb36, hx36⟩ := lp_s h
          clear h
          unfold p_X7_factors_b36 at hb36
          refine lv_iload C.1 C.2.1 dX7_factors_36 (lv_at hl 4 rfl) ?_
          refine lv_aload_n C.1 C.2.1 dX7_factors_38 rfl (lv_at hl 0 rfl) ?_
          refine x_get C Z 0 rfl rfl i_X7_X7_factors (k := 12) (by decide) (List.mem_of_getElem? (i := 1) rfl) rfl dX7_factors_39 ?_
          refine x_iconst C dX7_factors_42 ?_
          refine x_iald C Z 10 rfl (by decide) (by decide) dX7_factors_43 ?_
          have q95 := (ck_some hb36).1
          have h96 := (ck_some hb36).2
          clear hb36
          have q97 := (ck_some h96).1
          have h98 := (ck_some h96).2
          clear h96
          refine x_icmp_ge (tgt := 117) C dX7_factors_44 (by decide) q95 q97 (fun c99 => ?_) (fun c99 => ?_)
          · have h100 := if_n h98 c99
            clear h98
            cases h100
            have h102 := lp_R hx36
            subst h102
            exact hK36 _ _ _ Z (lv_sub hl [3] rfl)
          · have h101 := if_p h98 c99
            clear h98
            refine lv_aload_n C.1 C.2.1 dX7_factors_47 rfl (lv_at hl 0 rfl) ?_
            refine x_get C Z 0 rfl rfl i_X7_X7_factors (k := 16) (by decide) (List.mem_of_getElem? (i := 2) rfl) rfl dX7_factors_48 ?_
            refine lv_iload C.1 C.2.1 dX7_factors_51 (lv_at hl 4 rfl) ?_
            have q103 := (ix_some h101).1
            have h104 := (ix_some h101).2
            clear h101
            refine x_iald C Z 14 rfl (by decide) q103 dX7_factors_53 ?_
            refine x_iconst C dX7_factors_54 ?_
            refine x_iadd C dX7_factors_55 ?_
            refine lv_istore (lv' := [(5, .int (iI ((r18.near z36.2) + 1))), (0, .ref (aM 0)), (1, .int (iI v1)), (2, .int (iI v2)), (3, .int (iI z36.1)), (4, .int (iI z36.2))]) C.1 C.2.1 dX7_factors_56 hl (by decide) rfl (fun ls hl => ?_)
            obtain ⟨ex58, hl58, h164⟩ := bd_some h104
            clear h104
            have hK58 : ∀ (H : Heap) (locs : List Loc) (ls : Array Slot), xSt g A s (wM g aM sMv sMp r16 r18 sMc sMr) H locs → lv_has ls 6 [(0, .ref (aM 0)), (1, .int (iI v1)), (2, .int (iI v2)), (3, .int (iI ex58)), (4, .int (iI z36.2))] → W p l e rmX7_factors s m args below meth c H locs 0 0 QQ (F0 m 111 ls []) := by
              intro H locs ls Z hl
              have h165 := h164
              clear h164
              refine x_iinc (lv' := [(4, .int (iI (z36.2 + 1))), (0, .ref (aM 0)), (1, .int (iI v1)), (2, .int (iI v2)), (3, .int (iI ex58))]) C dX7_factors_111 hl (k := 4) rfl (by decide) rfl (fun ls hl => ?_)
              refine lv_goto (tgt := 36) C.1 C.2.1 dX7_factors_114 (by decide) ?_
              cases h165
              exact ih36 (ex58, z36.2 + 1) _ _ _ (lp_L2 hx36) Z (lv_sub hl [1, 2, 3, 4, 0] rfl)
            have hL58 : ∀ (k58 : Nat) (z58 : Int × Int) (H : Heap) (locs : List Loc) (ls : Array Slot), lp (p_X7_factors_b58 n r16 r18 v1 v2 z36.2) k58 z58 = some ex58 → xSt g A s (wM g aM sMv sMp r16 r18 sMc sMr) H locs → lv_has ls 6 [(0, .ref (aM 0)), (1, .int (iI v1)), (2, .int (iI v2)), (3, .int (iI z58.1)), (4, .int (iI z36.2)), (5, .int (iI z58.2))] → W p l e rmX7_factors s m args below meth c H locs 0 0 QQ (F0 m 58 ls []) := by
              intro k58
              induction k58 with
              | zero => intro z58 H locs ls h; exact (lp_0 h).elim
              | succ k58 ih58 =>
                intro z58 H locs ls h Z hl
                obtain ⟨x58, hb58, hx58⟩ := lp_s h
                clear h
                unfold p_X7_factors_b58 at hb58
                have hJ86 : ∀ (v5_86 : Int) (t0_86 : Int) (H : Heap) (locs : List Loc) (ls : Array Slot), p_X7_factors_j86 n r16 r18 v1 z36.2 v5_86 t0_86 = some x58 → xSt g A s (wM g aM sMv sMp r16 r18 sMc sMr) H locs → lv_has ls 6 [(0, .ref (aM 0)), (1, .int (iI v1)), (2, .int (iI v2)), (4, .int (iI z36.2)), (5, .int (iI v5_86))] → W p l e rmX7_factors s m args below meth c H locs 0 0 QQ (F0 m 86 ls [.int (iI t0_86)]) := by
                  intro v5_86 t0_86 H locs ls hj86 Z hl
                  unfold p_X7_factors_j86 at hj86
                  refine lv_aload_n C.1 C.2.1 dX7_factors_86 rfl (lv_at hl 0 rfl) ?_
                  refine lv_iload C.1 C.2.1 dX7_factors_87 (lv_at hl 3 rfl) ?_
                  refine lv_iload C.1 C.2.1 dX7_factors_89 (lv_at hl 4 rfl) ?_
                  obtain ⟨r135, hr135, h136⟩ := bd_some hj86
                  clear hj86
                  refine x_callV_i_id (As := [.int (iI z36.2), .int (iI v5_86)]) (rest := [.int (iI t0_86)]) (q0 := 0) C Z (k_X7_endsOf l g n aM sMv sMp r16 r18 sMc sMr z36.2 v5_86 r135 hr135) gX7_factors_X7_endsOf yk_X7_endsOf ⟨Nat.le_of_ble_eq_true rfl, Nat.le_of_ble_eq_true rfl⟩ rfl rfl ⟨Nat.zero_le _, Nat.zero_le _⟩ hl.1 rfl (Nat.le_of_ble_eq_true rfl) rfl dX7_factors_91 (fun H locs Z => ?_)
                  refine lv_iload_n C.1 C.2.1 dX7_factors_94 rfl (lv_at hl 1 rfl) ?_
                  have q137 := (ck_some h136).1
                  have h138 := (ck_some h136).2
                  clear h136
                  have q139 := (ck_some h138).1
                  have h140 := (ck_some h138).2
                  clear h138
                  refine x_icmp_lt (tgt := 102) C dX7_factors_95 (by decide) q137 q139 (fun c141 => ?_) (fun c141 => ?_)
                  · have h142 := if_p h140 c141
                    clear h140
                    refine x_iconst C dX7_factors_102 ?_
                    refine x_iadd C dX7_factors_103 ?_
                    refine lv_istore_n (lv' := [(3, .int (iI (t0_86 + 0))), (0, .ref (aM 0)), (1, .int (iI v1)), (2, .int (iI v2)), (4, .int (iI z36.2)), (5, .int (iI v5_86))]) C.1 C.2.1 dX7_factors_104 rfl hl (by decide) rfl (fun ls hl => ?_)
                    refine x_iinc (lv' := [(5, .int (iI (v5_86 + 1))), (3, .int (iI (t0_86 + 0))), (0, .ref (aM 0)), (1, .int (iI v1)), (2, .int (iI v2)), (4, .int (iI z36.2))]) C dX7_factors_105 hl (k := 5) rfl (by decide) rfl (fun ls hl => ?_)
                    refine lv_goto (tgt := 58) C.1 C.2.1 dX7_factors_108 (by decide) ?_
                    cases h142
                    exact ih58 (t0_86 + 0, v5_86 + 1) _ _ _ (lp_L2 hx58) Z (lv_sub hl [2, 3, 4, 1, 5, 0] rfl)
                  · have h143 := if_n h140 c141
                    clear h140
                    refine x_iconst C dX7_factors_98 ?_
                    refine lv_goto (tgt := 103) C.1 C.2.1 dX7_factors_99 (by decide) ?_
                    refine x_iadd C dX7_factors_103 ?_
                    refine lv_istore_n (lv' := [(3, .int (iI (t0_86 + 1))), (0, .ref (aM 0)), (1, .int (iI v1)), (2, .int (iI v2)), (4, .int (iI z36.2)), (5, .int (iI v5_86))]) C.1 C.2.1 dX7_factors_104 rfl hl (by decide) rfl (fun ls hl => ?_)
                    refine x_iinc (lv' := [(5, .int (iI (v5_86 + 1))), (3, .int (iI (t0_86 + 1))), (0, .ref (aM 0)), (1, .int (iI v1)), (2, .int (iI v2)), (4, .int (iI z36.2))]) C dX7_factors_105 hl (k := 5) rfl (by decide) rfl (fun ls hl => ?_)
                    refine lv_goto (tgt := 58) C.1 C.2.1 dX7_factors_108 (by decide) ?_
                    cases h143
                    exact ih58 (t0_86 + 1, v5_86 + 1) _ _ _ (lp_L2 hx58) Z (lv_sub hl [2, 3, 4, 1, 5, 0] rfl)
                refine lv_iload C.1 C.2.1 dX7_factors_58 (lv_at hl 5 rfl) ?_
                refine lv_aload_n C.1 C.2.1 dX7_factors_60 rfl (lv_at hl 0 rfl) ?_
                refine x_iconst C dX7_factors_61 ?_
                refine lv_aload_n C.1 C.2.1 dX7_factors_62 rfl (lv_at hl 0 rfl) ?_
                refine x_get C Z 0 rfl rfl i_X7_X7_factors (k := 15) (by decide) (List.mem_of_getElem? (i := 3) rfl) rfl dX7_factors_63 ?_
                refine lv_iload C.1 C.2.1 dX7_factors_66 (lv_at hl 4 rfl) ?_
                have q144 := (ix_some hb58).1
                have h145 := (ix_some hb58).2
                clear hb58
                refine x_iald C Z 13 rfl (by decide) q144 dX7_factors_68 ?_
                obtain ⟨r146, hr146, h147⟩ := bd_some h145
                clear h145
                refine x_callV_i_id (As := [.int (iI 0), .int (iI (r18.sorted z36.2))]) (rest := [.int (iI z58.2)]) (q0 := 0) C Z (k_X7_rest l g n aM sMv sMp r16 r18 sMc sMr 0 (r18.sorted z36.2) r146 hr146) gX7_factors_X7_rest yk_X7_rest ⟨Nat.le_of_ble_eq_true rfl, Nat.le_of_ble_eq_true rfl⟩ rfl rfl ⟨Nat.zero_le _, Nat.zero_le _⟩ hl.1 rfl (Nat.le_of_ble_eq_true rfl) rfl dX7_factors_69 (fun H locs Z => ?_)
                have q148 := (ck_some h147).1
                have h149 := (ck_some h147).2
                clear h147
                have q150 := (ck_some h149).1
                have h151 := (ck_some h149).2
                clear h149
                refine x_icmp_gt (tgt := 111) C dX7_factors_72 (by decide) q148 q150 (fun c152 => ?_) (fun c152 => ?_)
                · have h153 := if_p h151 c152
                  clear h151
                  cases h153
                  have h155 := lp_R hx58
                  subst h155
                  exact hK58 _ _ _ Z (lv_sub hl [0, 1, 2, 3, 4] rfl)
                · have h154 := if_n h151 c152
                  clear h151
                  refine lv_iload_n C.1 C.2.1 dX7_factors_75 rfl (lv_at hl 3 rfl) ?_
                  refine lv_iload_n C.1 C.2.1 dX7_factors_76 rfl (lv_at hl 2 rfl) ?_
                  have q156 := (ck_some h154).1
                  have h157 := (ck_some h154).2
                  clear h154
                  refine x_if_eq (tgt := 86) C dX7_factors_77 (by decide) q156 (fun c158 => ?_) (fun c158 => ?_)
                  · have h159 := if_p h157 c158
                    clear h157
                    exact hJ86 z58.2 z58.1 _ _ _ h159 Z (lv_sub hl [0, 1, 2, 4, 5] rfl)
                  · have h160 := if_n h157 c158
                    clear h157
                    refine lv_iload C.1 C.2.1 dX7_factors_80 (lv_at hl 5 rfl) ?_
                    refine lv_iload_n C.1 C.2.1 dX7_factors_82 rfl (lv_at hl 2 rfl) ?_
                    refine x_icmp_ne (tgt := 102) C dX7_factors_83 (by decide) q148 q156 (fun c161 => ?_) (fun c161 => ?_)
                    · have h162 := if_n h160 c161
                      clear h160
                      refine x_iconst C dX7_factors_102 ?_
                      refine x_iadd C dX7_factors_103 ?_
                      refine lv_istore_n (lv' := [(3, .int (iI (z58.1 + 0))), (0, .ref (aM 0)), (1, .int (iI v1)), (2, .int (iI v2)), (4, .int (iI z36.2)), (5, .int (iI z58.2))]) C.1 C.2.1 dX7_factors_104 rfl hl (by decide) rfl (fun ls hl => ?_)
                      refine x_iinc (lv' := [(5, .int (iI (z58.2 + 1))), (3, .int (iI (z58.1 + 0))), (0, .ref (aM 0)), (1, .int (iI v1)), (2, .int (iI v2)), (4, .int (iI z36.2))]) C dX7_factors_105 hl (k := 5) rfl (by decide) rfl (fun ls hl => ?_)
                      refine lv_goto (tgt := 58) C.1 C.2.1 dX7_factors_108 (by decide) ?_
                      cases h162
                      exact ih58 (z58.1 + 0, z58.2 + 1) _ _ _ (lp_L2 hx58) Z (lv_sub hl [2, 3, 4, 1, 5, 0] rfl)
                    · have h163 := if_p h160 c161
                      clear h160
                      exact hJ86 z58.2 z58.1 _ _ _ h163 Z (lv_sub hl [0, 1, 2, 4, 5] rfl)
            exact hL58 n (z36.1, (r18.near z36.2) + 1) _ _ _ hl58 Z (lv_sub hl [1, 2, 3, 4, 5, 0] rfl)
      exact hL36 n (0, 0) _ _ _ hl36 Z (lv_sub hl [2, 3, 4, 1, 0] rfl)
    · have h15 := if_p h12 c13
      clear h12
      refine x_bipush C dX7_factors_20 (by decide) ?_
      have h169 := Option.some.inj h15
      subst h169
      exact hRet _ _ _ _ Z dX7_factors_22
abbrev rmX7_write : Room := { frames := 1, cells := 0, slots := 0, locals := 21 }
theorem yk_X7_write : xY yX7_write RX7 cX7_write 4 (some .int) wsX7_write rmX7_write 2 := ⟨⟨_, rfl⟩, by decide +kernel, rfl, rfl⟩
theorem i_X7_X7_write : ∀ w ∈ u_ws RX7 TX7 23, w ∈ wsX7_write := fun _ h => List.mem_cons_of_mem _ (List.mem_append_right _ h)
set_option maxHeartbeats 4000000 in
set_option maxRecDepth 100000 in
theorem k_X7_write (l : Launch) (g : xG) (n : Nat) (aM : Nat → Nat) (sMv : MvS) (sMp : MpS) (sMt : MtS) (sMs : MsS) (sMc : McS) (sMr : MrS) (v1 : Int) (v2 : Int) (r : Int × MpS) (hf : p_X7_write n sMp sMt v1 v2 = some r) : xMi l yX7_write wsX7_write rmX7_write g [.ref (aM 0), .int (iI v1), .int (iI v2)] (wM g aM sMv sMp sMt sMs sMc sMr) (wM g aM sMv r.2 sMt sMs sMc sMr) r.1 := by
  refine x_ofW_i (own := RX7) (by decide) rfl rfl (Nat.le_of_ble_eq_true rfl) ?_
  intro p e s m args below meth c ls A QQ C hRet Z hl
  have hl : lv_has ls 4 [(0, .ref (aM 0)), (1, .int (iI v1)), (2, .int (iI v2))] := hl
  unfold p_X7_write at hf
  refine x_iconst C dX7_write_0 ?_
  refine lv_istore_n (lv' := [(3, .int (iI 0)), (0, .ref (aM 0)), (1, .int (iI v1)), (2, .int (iI v2))]) C.1 C.2.1 dX7_write_1 rfl hl (by decide) rfl (fun ls hl => ?_)
  obtain ⟨ex2, hl2, h25⟩ := bd_some hf
  clear hf
  have hK2 : ∀ (H : Heap) (locs : List Loc) (ls : Array Slot), xSt g A s (wM g aM sMv (ex2, sMp.padMany) sMt sMs sMc sMr) H locs → lv_has ls 4 [(0, .ref (aM 0)), (2, .int (iI v2))] → W p l e rmX7_write s m args below meth c H locs 0 0 QQ (F0 m 29 ls []) := by
    intro H locs ls Z hl
    have h26 := h25
    clear h25
    refine lv_aload_n C.1 C.2.1 dX7_write_29 rfl (lv_at hl 0 rfl) ?_
    refine lv_iload_n C.1 C.2.1 dX7_write_30 rfl (lv_at hl 1 rfl) ?_
    refine x_put (ws2 := wM g aM sMv (ex2, v2) sMt sMs sMc sMr) C Z 0 rfl rfl i_X7_X7_write tyX7_ok nmX7 (k := 7) (by decide) (List.mem_of_getElem? (i := 2) rfl) rfl rfl (Nat.le_of_ble_eq_true rfl) dX7_write_31 rfl (fun H locs Z => ?_)
    refine lv_iload_n C.1 C.2.1 dX7_write_34 rfl (lv_at hl 1 rfl) ?_
    have h27 := Option.some.inj h26
    subst h27
    exact hRet _ _ _ _ Z dX7_write_35
  have hL2 : ∀ (k2 : Nat) (z2 : Int × Row) (H : Heap) (locs : List Loc) (ls : Array Slot), lp (p_X7_write_b2 n sMt v1 v2) k2 z2 = some ex2 → xSt g A s (wM g aM sMv (z2.2, sMp.padMany) sMt sMs sMc sMr) H locs → lv_has ls 4 [(0, .ref (aM 0)), (1, .int (iI v1)), (2, .int (iI v2)), (3, .int (iI z2.1))] → W p l e rmX7_write s m args below meth c H locs 0 0 QQ (F0 m 2 ls []) := by
    intro k2
    induction k2 with
    | zero => intro z2 H locs ls h; exact (lp_0 h).elim
    | succ k2 ih2 =>
      intro z2 H locs ls h Z hl
      obtain ⟨x2, hb2, hx2⟩ := lp_s h
      clear h
      unfold p_X7_write_b2 at hb2
      refine lv_iload_n C.1 C.2.1 dX7_write_2 rfl (lv_at hl 3 rfl) ?_
      refine lv_iload_n C.1 C.2.1 dX7_write_3 rfl (lv_at hl 2 rfl) ?_
      have q13 := (ck_some hb2).1
      have h14 := (ck_some hb2).2
      clear hb2
      have q15 := (ck_some h14).1
      have h16 := (ck_some h14).2
      clear h14
      refine x_icmp_ge (tgt := 29) C dX7_write_4 (by decide) q13 q15 (fun c17 => ?_) (fun c17 => ?_)
      · have h18 := if_n h16 c17
        clear h16
        cases h18
        have h20 := lp_R hx2
        subst h20
        exact hK2 _ _ _ Z (lv_sub hl [0, 2] rfl)
      · have h19 := if_p h16 c17
        clear h16
        refine lv_aload_n C.1 C.2.1 dX7_write_7 rfl (lv_at hl 0 rfl) ?_
        refine x_get C Z 0 rfl rfl i_X7_X7_write (k := 6) (by decide) (List.mem_of_getElem? (i := 1) rfl) rfl dX7_write_8 ?_
        refine lv_iload_n C.1 C.2.1 dX7_write_11 rfl (lv_at hl 3 rfl) ?_
        refine x_bipush C dX7_write_12 (by decide) ?_
        refine lv_aload_n C.1 C.2.1 dX7_write_14 rfl (lv_at hl 0 rfl) ?_
        refine lv_iload_n C.1 C.2.1 dX7_write_15 rfl (lv_at hl 1 rfl) ?_
        refine lv_iload_n C.1 C.2.1 dX7_write_16 rfl (lv_at hl 3 rfl) ?_
        refine x_iadd C dX7_write_17 ?_
        obtain ⟨r21, hr21, h22⟩ := bd_some h19
        clear h19
        refine x_callV_i_id (As := [.int (iI (v1 + z2.1))]) (rest := [.int (iI 97), .int (iI z2.1), .ref (aM 5)]) (q0 := 0) C Z (k_X7_letterAt l g n aM sMv (z2.2, sMp.padMany) sMt sMs sMc sMr (v1 + z2.1) r21 hr21) gX7_write_X7_letterAt yk_X7_letterAt ⟨Nat.le_of_ble_eq_true rfl, Nat.le_of_ble_eq_true rfl⟩ rfl rfl ⟨Nat.zero_le _, Nat.zero_le _⟩ hl.1 rfl (Nat.le_of_ble_eq_true rfl) rfl dX7_write_18 (fun H locs Z => ?_)
        refine x_iadd C dX7_write_21 ?_
        have q23 := (ix_some h22).1
        have h24 := (ix_some h22).2
        clear h22
        refine x_iast (ws2 := wM g aM sMv (up z2.2 z2.1 (97 + r21), sMp.padMany) sMt sMs sMc sMr) C Z 5 rfl (by decide) q23 dX7_write_22 rfl (fun H locs Z => ?_)
        refine x_iinc (lv' := [(3, .int (iI (z2.1 + 1))), (0, .ref (aM 0)), (1, .int (iI v1)), (2, .int (iI v2))]) C dX7_write_23 hl (k := 3) rfl (by decide) rfl (fun ls hl => ?_)
        refine lv_goto (tgt := 2) C.1 C.2.1 dX7_write_26 (by decide) ?_
        cases h24
        exact ih2 (z2.1 + 1, up z2.2 z2.1 (97 + r21)) _ _ _ (lp_L2 hx2) Z (lv_sub hl [1, 2, 3, 0] rfl)
  exact hL2 n (0, sMp.pad) _ _ _ hl2 Z (lv_sub hl [1, 2, 3, 0] rfl)
abbrev rmX7_kth : Room := { frames := 4, cells := 0, slots := 0, locals := 93 }
theorem yk_X7_kth : xY yX7_kth RX7 cX7_kth 6 (some .int) wsX7_kth rmX7_kth 2 := ⟨⟨_, rfl⟩, by decide +kernel, rfl, rfl⟩
theorem i_X7_X7_kth : ∀ w ∈ u_ws RX7 TX7 23, w ∈ wsX7_kth := fun _ h => List.mem_cons_of_mem _ (List.mem_append_right _ h)
set_option maxHeartbeats 4000000 in
set_option maxRecDepth 100000 in
theorem k_X7_kth (l : Launch) (g : xG) (n : Nat) (aM : Nat → Nat) (sMv : MvS) (sMp : MpS) (sMt : MtS) (sMs : MsS) (sMc : McS) (sMr : MrS) (v1 : Int) (v2 : Int) (r : Int × MpS × MtS × MsS) (hf : p_X7_kth n sMv sMp sMt sMs v1 v2 = some r) : xMi l yX7_kth wsX7_kth rmX7_kth g [.ref (aM 0), .int (iI v1), .int (iI v2)] (wM g aM sMv sMp sMt sMs sMc sMr) (wM g aM sMv r.2.1 r.2.2.1 r.2.2.2 sMc sMr) r.1 := by
  refine x_ofW_i (own := RX7) (by decide) rfl rfl (Nat.le_of_ble_eq_true rfl) ?_
  intro p e s m args below meth c ls A QQ C hRet Z hl
  have hl : lv_has ls 6 [(0, .ref (aM 0)), (1, .int (iI v1)), (2, .int (iI v2))] := hl
  unfold p_X7_kth at hf
  refine lv_iload_n C.1 C.2.1 dX7_kth_0 rfl (lv_at hl 1 rfl) ?_
  refine x_iconst C dX7_kth_1 ?_
  refine x_bipush C dX7_kth_2 (by decide) ?_
  obtain ⟨r1, hr1, h2⟩ := bd_some hf
  clear hf
  refine x_callS_i (As := [.int (iI v1), .int (iI 1), .int (iI 60)]) (rest := []) C Z (k_X7_in l g n v1 1 60 r1 hr1) gX7_kth_X7_in yk_X7_in ⟨Nat.le_of_ble_eq_true rfl, Nat.le_of_ble_eq_true rfl⟩ ⟨Nat.zero_le _, Nat.zero_le _⟩ hl.1 rfl (Nat.le_of_ble_eq_true rfl) rfl dX7_kth_4 (fun H locs Z => ?_)
  have q3 := (ck_some h2).1
  have h4 := (ck_some h2).2
  clear h2
  refine x_if_ne (tgt := 13) C dX7_kth_7 (by decide) q3 (fun c5 => ?_) (fun c5 => ?_)
  · have h6 := if_n h4 c5
    clear h4
    refine lv_aload_n C.1 C.2.1 dX7_kth_13 rfl (lv_at hl 0 rfl) ?_
    obtain ⟨r8, hr8, h9⟩ := bd_some h6
    clear h6
    refine x_callV_v_id (As := []) (rest := []) (q0 := 0) C Z (k_X7_layPresent l g n aM sMv sMp sMt sMs sMc sMr r8 hr8) gX7_kth_X7_layPresent yk_X7_layPresent ⟨Nat.le_of_ble_eq_true rfl, Nat.le_of_ble_eq_true rfl⟩ rfl rfl ⟨Nat.zero_le _, Nat.zero_le _⟩ hl.1 rfl (Nat.le_of_ble_eq_true rfl) rfl dX7_kth_14 (fun H locs Z => ?_)
    refine lv_aload_n C.1 C.2.1 dX7_kth_17 rfl (lv_at hl 0 rfl) ?_
    obtain ⟨r10, hr10, h11⟩ := bd_some h9
    clear h9
    refine x_callV_v_id (As := []) (rest := []) (q0 := 0) C Z (k_X7_sort l g n aM sMv sMp r8 sMs sMc sMr r10 hr10) gX7_kth_X7_sort yk_X7_sort ⟨Nat.le_of_ble_eq_true rfl, Nat.le_of_ble_eq_true rfl⟩ rfl rfl ⟨Nat.zero_le _, Nat.zero_le _⟩ hl.1 rfl (Nat.le_of_ble_eq_true rfl) rfl dX7_kth_18 (fun H locs Z => ?_)
    refine x_iconst C dX7_kth_21 ?_
    refine lv_istore_n (lv' := [(3, .int (iI 0)), (0, .ref (aM 0)), (1, .int (iI v1)), (2, .int (iI v2))]) C.1 C.2.1 dX7_kth_22 rfl hl (by decide) rfl (fun ls hl => ?_)
    refine x_iconst C dX7_kth_23 ?_
    refine lv_istore (lv' := [(4, .int (iI 0)), (3, .int (iI 0)), (0, .ref (aM 0)), (1, .int (iI v1)), (2, .int (iI v2))]) C.1 C.2.1 dX7_kth_24 hl (by decide) rfl (fun ls hl => ?_)
    obtain ⟨ex26, hl26, h182⟩ := bd_some h11
    clear h11
    have hK26 : ∀ (e26 : MpS) (H : Heap) (locs : List Loc) (ls : Array Slot), ex26 = .inr e26 → xSt g A s (wM g aM sMv e26 r8 r10 sMc sMr) H locs → lv_has ls 6 [] → W p l e rmX7_kth s m args below meth c H locs 0 0 QQ (F0 m 111 ls []) := by
      intro e26 H locs ls he Z hl
      subst he
      have h183 := (Sum.elim_inr ..).symm.trans h182
      clear h182
      refine x_bipush C dX7_kth_111 (by decide) ?_
      have h184 := Option.some.inj h183
      subst h184
      exact hRet _ _ _ _ Z dX7_kth_113
    have hL26 : ∀ (k26 : Nat) (z26 : Int × Int × MpS) (H : Heap) (locs : List Loc) (ls : Array Slot), lp (p_X7_kth_b26 n r8 r10 v1 v2) k26 z26 = some ex26 → xSt g A s (wM g aM sMv z26.2.2 r8 r10 sMc sMr) H locs → lv_has ls 6 [(0, .ref (aM 0)), (1, .int (iI v1)), (2, .int (iI v2)), (3, .int (iI z26.1)), (4, .int (iI z26.2.1))] → W p l e rmX7_kth s m args below meth c H locs 0 0 QQ (F0 m 26 ls []) := by
      intro k26
      induction k26 with
      | zero => intro z26 H locs ls h; exact (lp_0 h).elim
      | succ k26 ih26 =>
        intro z26 H locs ls h Z hl
        obtain ⟨x26, hb26, hx26⟩ := lp_s h
        clear h
        unfold p_X7_kth_b26 at hb26
        refine lv_iload C.1 C.2.1 dX7_kth_26 (lv_at hl 4 rfl) ?_
        refine lv_aload_n C.1 C.2.1 dX7_kth_28 rfl (lv_at hl 0 rfl) ?_
        refine x_get C Z 0 rfl rfl i_X7_X7_kth (k := 12) (by decide) (List.mem_of_getElem? (i := 1) rfl) rfl dX7_kth_29 ?_
        refine x_iconst C dX7_kth_32 ?_
        refine x_iald C Z 10 rfl (by decide) (by decide) dX7_kth_33 ?_
        have q99 := (ck_some hb26).1
        have h100 := (ck_some hb26).2
        clear hb26
        have q101 := (ck_some h100).1
        have h102 := (ck_some h100).2
        clear h100
        refine x_icmp_ge (tgt := 111) C dX7_kth_34 (by decide) q99 q101 (fun c103 => ?_) (fun c103 => ?_)
        · have h104 := if_n h102 c103
          clear h102
          cases h104
          exact hK26 z26.2.2 _ _ _ (lp_R hx26).symm Z (lv_sub hl [] rfl)
        · have h105 := if_p h102 c103
          clear h102
          refine lv_aload_n C.1 C.2.1 dX7_kth_37 rfl (lv_at hl 0 rfl) ?_
          refine x_get C Z 0 rfl rfl i_X7_X7_kth (k := 16) (by decide) (List.mem_of_getElem? (i := 2) rfl) rfl dX7_kth_38 ?_
          refine lv_iload C.1 C.2.1 dX7_kth_41 (lv_at hl 4 rfl) ?_
          have q106 := (ix_some h105).1
          have h107 := (ix_some h105).2
          clear h105
          refine x_iald C Z 14 rfl (by decide) q106 dX7_kth_43 ?_
          refine x_iconst C dX7_kth_44 ?_
          refine x_iadd C dX7_kth_45 ?_
          refine lv_istore (lv' := [(5, .int (iI ((r10.near z26.2.1) + 1))), (0, .ref (aM 0)), (1, .int (iI v1)), (2, .int (iI v2)), (3, .int (iI z26.1)), (4, .int (iI z26.2.1))]) C.1 C.2.1 dX7_kth_46 hl (by decide) rfl (fun ls hl => ?_)
          obtain ⟨ex48, hl48, h180⟩ := bd_some h107
          clear h107
          have hK48 : ∀ (e48 : Int × MpS) (H : Heap) (locs : List Loc) (ls : Array Slot), ex48 = .inr e48 → xSt g A s (wM g aM sMv e48.2 r8 r10 sMc sMr) H locs → lv_has ls 6 [(0, .ref (aM 0)), (1, .int (iI v1)), (2, .int (iI v2)), (3, .int (iI e48.1)), (4, .int (iI z26.2.1))] → W p l e rmX7_kth s m args below meth c H locs 0 0 QQ (F0 m 105 ls []) := by
            intro e48 H locs ls he Z hl
            subst he
            have h181 := (Sum.elim_inr ..).symm.trans h180
            clear h180
            refine x_iinc (lv' := [(4, .int (iI (z26.2.1 + 1))), (0, .ref (aM 0)), (1, .int (iI v1)), (2, .int (iI v2)), (3, .int (iI e48.1))]) C dX7_kth_105 hl (k := 4) rfl (by decide) rfl (fun ls hl => ?_)
            refine lv_goto (tgt := 26) C.1 C.2.1 dX7_kth_108 (by decide) ?_
            cases h181
            exact ih26 (e48.1, z26.2.1 + 1, e48.2) _ _ _ (lp_L2 hx26) Z (lv_sub hl [1, 2, 3, 4, 0] rfl)
          have hL48 : ∀ (k48 : Nat) (z48 : Int × Int × MpS) (H : Heap) (locs : List Loc) (ls : Array Slot), lp (p_X7_kth_b48 n r8 r10 v1 v2 z26.2.1) k48 z48 = some ex48 → xSt g A s (wM g aM sMv z48.2.2 r8 r10 sMc sMr) H locs → lv_has ls 6 [(0, .ref (aM 0)), (1, .int (iI v1)), (2, .int (iI v2)), (3, .int (iI z48.1)), (4, .int (iI z26.2.1)), (5, .int (iI z48.2.1))] → W p l e rmX7_kth s m args below meth c H locs 0 0 QQ (F0 m 48 ls []) := by
            intro k48
            induction k48 with
            | zero => intro z48 H locs ls h; exact (lp_0 h).elim
            | succ k48 ih48 =>
              intro z48 H locs ls h Z hl
              obtain ⟨x48, hb48, hx48⟩ := lp_s h
              clear h
              unfold p_X7_kth_b48 at hb48
              refine lv_iload C.1 C.2.1 dX7_kth_48 (lv_at hl 5 rfl) ?_
              refine lv_aload_n C.1 C.2.1 dX7_kth_50 rfl (lv_at hl 0 rfl) ?_
              refine x_iconst C dX7_kth_51 ?_
              refine lv_aload_n C.1 C.2.1 dX7_kth_52 rfl (lv_at hl 0 rfl) ?_
              refine x_get C Z 0 rfl rfl i_X7_X7_kth (k := 15) (by decide) (List.mem_of_getElem? (i := 3) rfl) rfl dX7_kth_53 ?_
              refine lv_iload C.1 C.2.1 dX7_kth_56 (lv_at hl 4 rfl) ?_
              have q144 := (ix_some hb48).1
              have h145 := (ix_some hb48).2
              clear hb48
              refine x_iald C Z 13 rfl (by decide) q144 dX7_kth_58 ?_
              obtain ⟨r146, hr146, h147⟩ := bd_some h145
              clear h145
              refine x_callV_i_id (As := [.int (iI 0), .int (iI (r10.sorted z26.2.1))]) (rest := [.int (iI z48.2.1)]) (q0 := 0) C Z (k_X7_rest l g n aM sMv z48.2.2 r8 r10 sMc sMr 0 (r10.sorted z26.2.1) r146 hr146) gX7_kth_X7_rest yk_X7_rest ⟨Nat.le_of_ble_eq_true rfl, Nat.le_of_ble_eq_true rfl⟩ rfl rfl ⟨Nat.zero_le _, Nat.zero_le _⟩ hl.1 rfl (Nat.le_of_ble_eq_true rfl) rfl dX7_kth_59 (fun H locs Z => ?_)
              have q148 := (ck_some h147).1
              have h149 := (ck_some h147).2
              clear h147
              have q150 := (ck_some h149).1
              have h151 := (ck_some h149).2
              clear h149
              refine x_icmp_gt (tgt := 105) C dX7_kth_62 (by decide) q148 q150 (fun c152 => ?_) (fun c152 => ?_)
              · have h153 := if_p h151 c152
                clear h151
                cases h153
                exact hK48 (z48.1, z48.2.2) _ _ _ (lp_R hx48).symm Z (lv_sub hl [0, 1, 2, 3, 4] rfl)
              · have h154 := if_n h151 c152
                clear h151
                refine lv_aload_n C.1 C.2.1 dX7_kth_65 rfl (lv_at hl 0 rfl) ?_
                refine lv_iload C.1 C.2.1 dX7_kth_66 (lv_at hl 4 rfl) ?_
                refine lv_iload C.1 C.2.1 dX7_kth_68 (lv_at hl 5 rfl) ?_
                obtain ⟨r155, hr155, h156⟩ := bd_some h154
                clear h154
                refine x_callV_i_id (As := [.int (iI z26.2.1), .int (iI z48.2.1)]) (rest := []) (q0 := 0) C Z (k_X7_endsOf l g n aM sMv z48.2.2 r8 r10 sMc sMr z26.2.1 z48.2.1 r155 hr155) gX7_kth_X7_endsOf yk_X7_endsOf ⟨Nat.le_of_ble_eq_true rfl, Nat.le_of_ble_eq_true rfl⟩ rfl rfl ⟨Nat.zero_le _, Nat.zero_le _⟩ hl.1 rfl (Nat.le_of_ble_eq_true rfl) rfl dX7_kth_70 (fun H locs Z => ?_)
                refine lv_iload_n C.1 C.2.1 dX7_kth_73 rfl (lv_at hl 1 rfl) ?_
                have q157 := (ck_some h156).1
                have h158 := (ck_some h156).2
                clear h156
                have q159 := (ck_some h158).1
                have h160 := (ck_some h158).2
                clear h158
                refine x_icmp_lt (tgt := 99) C dX7_kth_74 (by decide) q157 q159 (fun c161 => ?_) (fun c161 => ?_)
                · have h162 := if_p h160 c161
                  clear h160
                  refine x_iinc (lv' := [(5, .int (iI (z48.2.1 + 1))), (0, .ref (aM 0)), (1, .int (iI v1)), (2, .int (iI v2)), (3, .int (iI z48.1)), (4, .int (iI z26.2.1))]) C dX7_kth_99 hl (k := 5) rfl (by decide) rfl (fun ls hl => ?_)
                  refine lv_goto (tgt := 48) C.1 C.2.1 dX7_kth_102 (by decide) ?_
                  cases h162
                  exact ih48 (z48.1, z48.2.1 + 1, z48.2.2) _ _ _ (lp_L2 hx48) Z (lv_sub hl [1, 2, 3, 4, 5, 0] rfl)
                · have h163 := if_n h160 c161
                  clear h160
                  refine lv_iload_n C.1 C.2.1 dX7_kth_77 rfl (lv_at hl 3 rfl) ?_
                  refine lv_iload_n C.1 C.2.1 dX7_kth_78 rfl (lv_at hl 2 rfl) ?_
                  have q164 := (ck_some h163).1
                  have h165 := (ck_some h163).2
                  clear h163
                  have q166 := (ck_some h165).1
                  have h167 := (ck_some h165).2
                  clear h165
                  refine x_icmp_ne (tgt := 96) C dX7_kth_79 (by decide) q164 q166 (fun c168 => ?_) (fun c168 => ?_)
                  · have h169 := if_n h167 c168
                    clear h167
                    refine x_iinc (lv' := [(3, .int (iI (z48.1 + 1))), (0, .ref (aM 0)), (1, .int (iI v1)), (2, .int (iI v2)), (4, .int (iI z26.2.1)), (5, .int (iI z48.2.1))]) C dX7_kth_96 hl (k := 3) rfl (by decide) rfl (fun ls hl => ?_)
                    refine x_iinc (lv' := [(5, .int (iI (z48.2.1 + 1))), (3, .int (iI (z48.1 + 1))), (0, .ref (aM 0)), (1, .int (iI v1)), (2, .int (iI v2)), (4, .int (iI z26.2.1))]) C dX7_kth_99 hl (k := 5) rfl (by decide) rfl (fun ls hl => ?_)
                    refine lv_goto (tgt := 48) C.1 C.2.1 dX7_kth_102 (by decide) ?_
                    cases h169
                    exact ih48 (z48.1 + 1, z48.2.1 + 1, z48.2.2) _ _ _ (lp_L2 hx48) Z (lv_sub hl [2, 3, 4, 1, 5, 0] rfl)
                  · have h170 := if_p h167 c168
                    clear h167
                    refine lv_aload_n C.1 C.2.1 dX7_kth_82 rfl (lv_at hl 0 rfl) ?_
                    refine lv_aload_n C.1 C.2.1 dX7_kth_83 rfl (lv_at hl 0 rfl) ?_
                    refine x_get C Z 0 rfl rfl i_X7_X7_kth (k := 15) (by decide) (List.mem_of_getElem? (i := 3) rfl) rfl dX7_kth_84 ?_
                    refine lv_iload C.1 C.2.1 dX7_kth_87 (lv_at hl 4 rfl) ?_
                    refine x_iald C Z 13 rfl (by decide) q144 dX7_kth_89 ?_
                    refine lv_iload C.1 C.2.1 dX7_kth_90 (lv_at hl 5 rfl) ?_
                    obtain ⟨r173, hr173, h174⟩ := bd_some h170
                    clear h170
                    refine x_callV_i_id (As := [.int (iI (r10.sorted z26.2.1)), .int (iI z48.2.1)]) (rest := []) (q0 := 0) C Z (k_X7_write l g n aM sMv z48.2.2 r8 r10 sMc sMr (r10.sorted z26.2.1) z48.2.1 r173 hr173) gX7_kth_X7_write yk_X7_write ⟨Nat.le_of_ble_eq_true rfl, Nat.le_of_ble_eq_true rfl⟩ rfl rfl ⟨Nat.zero_le _, Nat.zero_le _⟩ hl.1 rfl (Nat.le_of_ble_eq_true rfl) rfl dX7_kth_92 (fun H locs Z => ?_)
                    cases h174
                    have h175 := lp_R hx48
                    subst h175
                    have h176 := (Sum.elim_inl ..).symm.trans h180
                    cases h176
                    have h177 := lp_R hx26
                    subst h177
                    have h178 := (Sum.elim_inl ..).symm.trans h182
                    have h179 := Option.some.inj h178
                    subst h179
                    exact hRet _ _ _ _ Z dX7_kth_95
          exact hL48 n (z26.1, (r10.near z26.2.1) + 1, z26.2.2) _ _ _ hl48 Z (lv_sub hl [1, 2, 3, 4, 5, 0] rfl)
    exact hL26 n (0, 0, sMp) _ _ _ hl26 Z (lv_sub hl [2, 3, 4, 1, 0] rfl)
  · have h7 := if_p h4 c5
    clear h4
    refine x_bipush C dX7_kth_10 (by decide) ?_
    have h185 := Option.some.inj h7
    subst h185
    exact hRet _ _ _ _ Z dX7_kth_12
abbrev rmX7_comesBefore : Room := { frames := 1, cells := 0, slots := 0, locals := 21 }
theorem yk_X7_comesBefore : xY yX7_comesBefore RX7 cX7_comesBefore 4 (some .boolean) wsX7_comesBefore rmX7_comesBefore 2 := ⟨⟨_, rfl⟩, by decide +kernel, rfl, rfl⟩
theorem i_X7_X7_comesBefore : ∀ w ∈ u_ws RX7 TX7 23, w ∈ wsX7_comesBefore := fun _ h => List.mem_cons_of_mem _ (List.mem_append_right _ h)
set_option maxHeartbeats 4000000 in
set_option maxRecDepth 100000 in
theorem k_X7_comesBefore (l : Launch) (g : xG) (n : Nat) (aM : Nat → Nat) (sMv : MvS) (sMp : MpS) (sMt : MtS) (sMs : MsS) (sMc : McS) (sMr : MrS) (v1 : Int) (v2 : Int) (r : Int) (hf : p_X7_comesBefore n sMp sMt v1 v2 = some r) : xMi l yX7_comesBefore wsX7_comesBefore rmX7_comesBefore g [.ref (aM 0), .int (iI v1), .int (iI v2)] (wM g aM sMv sMp sMt sMs sMc sMr) (wM g aM sMv sMp sMt sMs sMc sMr) r := by
  refine x_ofW_z (own := RX7) (by decide) rfl rfl (Nat.le_of_ble_eq_true rfl) ?_
  intro p e s m args below meth c ls A QQ C hRet Z hl
  have hl : lv_has ls 4 [(0, .ref (aM 0)), (1, .int (iI v1)), (2, .int (iI v2))] := hl
  unfold p_X7_comesBefore at hf
  have hJ53 : ∀ (v2_53 : Int) (v3_53 : Int) (H : Heap) (locs : List Loc) (ls : Array Slot), p_X7_comesBefore_j53 n sMp v2_53 v3_53 = some r → xSt g A s (wM g aM sMv sMp sMt sMs sMc sMr) H locs → lv_has ls 4 [(0, .ref (aM 0)), (2, .int (iI v2_53)), (3, .int (iI v3_53))] → W p l e rmX7_comesBefore s m args below meth c H locs 0 0 QQ (F0 m 53 ls []) := by
    intro v2_53 v3_53 H locs ls hj53 Z hl
    unfold p_X7_comesBefore_j53 at hj53
    refine lv_iload_n C.1 C.2.1 dX7_comesBefore_53 rfl (lv_at hl 2 rfl) ?_
    refine lv_iload_n C.1 C.2.1 dX7_comesBefore_54 rfl (lv_at hl 1 rfl) ?_
    have q1 := (ck_some hj53).1
    have h2 := (ck_some hj53).2
    clear hj53
    have q3 := (ck_some h2).1
    have h4 := (ck_some h2).2
    clear h2
    refine x_icmp_ne (tgt := 70) C dX7_comesBefore_55 (by decide) q1 q3 (fun c5 => ?_) (fun c5 => ?_)
    · have h6 := if_n h4 c5
      clear h4
      refine x_iconst C dX7_comesBefore_70 ?_
      have h8 := Option.some.inj h6
      subst h8
      exact hRet _ _ _ _ (x_bool (Or.inl rfl)) Z dX7_comesBefore_71
    · have h7 := if_p h4 c5
      clear h4
      refine lv_iload_n C.1 C.2.1 dX7_comesBefore_58 rfl (lv_at hl 1 rfl) ?_
      refine lv_aload_n C.1 C.2.1 dX7_comesBefore_59 rfl (lv_at hl 0 rfl) ?_
      refine x_get C Z 0 rfl rfl i_X7_X7_comesBefore (k := 7) (by decide) (List.mem_of_getElem? (i := 1) rfl) rfl dX7_comesBefore_60 ?_
      have q9 := (ck_some h7).1
      have h10 := (ck_some h7).2
      clear h7
      refine x_icmp_ge (tgt := 70) C dX7_comesBefore_63 (by decide) q3 q9 (fun c11 => ?_) (fun c11 => ?_)
      · have h12 := if_n h10 c11
        clear h10
        refine x_iconst C dX7_comesBefore_70 ?_
        have h14 := Option.some.inj h12
        subst h14
        exact hRet _ _ _ _ (x_bool (Or.inl rfl)) Z dX7_comesBefore_71
      · have h13 := if_p h10 c11
        clear h10
        refine x_iconst C dX7_comesBefore_66 ?_
        refine lv_goto (tgt := 71) C.1 C.2.1 dX7_comesBefore_67 (by decide) ?_
        have h15 := Option.some.inj h13
        subst h15
        exact hRet _ _ _ _ (x_bool (Or.inr rfl)) Z dX7_comesBefore_71
  refine x_iconst C dX7_comesBefore_0 ?_
  refine lv_istore_n (lv' := [(3, .int (iI 0)), (0, .ref (aM 0)), (1, .int (iI v1)), (2, .int (iI v2))]) C.1 C.2.1 dX7_comesBefore_1 rfl hl (by decide) rfl (fun ls hl => ?_)
  obtain ⟨ex2, hl2, h68⟩ := bd_some hf
  clear hf
  have hK2 : ∀ (H : Heap) (locs : List Loc) (ls : Array Slot), xSt g A s (wM g aM sMv sMp sMt sMs sMc sMr) H locs → lv_has ls 4 [(0, .ref (aM 0)), (1, .int (iI v1)), (2, .int (iI v2)), (3, .int (iI ex2))] → W p l e rmX7_comesBefore s m args below meth c H locs 0 0 QQ (F0 m 40 ls []) := by
    intro H locs ls Z hl
    have h69 := h68
    clear h68
    refine lv_iload_n C.1 C.2.1 dX7_comesBefore_40 rfl (lv_at hl 3 rfl) ?_
    refine lv_iload_n C.1 C.2.1 dX7_comesBefore_41 rfl (lv_at hl 2 rfl) ?_
    have q70 := (ck_some h69).1
    have h71 := (ck_some h69).2
    clear h69
    have q72 := (ck_some h71).1
    have h73 := (ck_some h71).2
    clear h71
    refine x_icmp_eq (tgt := 53) C dX7_comesBefore_42 (by decide) q70 q72 (fun c74 => ?_) (fun c74 => ?_)
    · have h75 := if_p h73 c74
      clear h73
      exact hJ53 v2 ex2 _ _ _ h75 Z (lv_sub hl [0, 2, 3] rfl)
    · have h76 := if_n h73 c74
      clear h73
      refine lv_iload_n C.1 C.2.1 dX7_comesBefore_45 rfl (lv_at hl 3 rfl) ?_
      refine lv_aload_n C.1 C.2.1 dX7_comesBefore_46 rfl (lv_at hl 0 rfl) ?_
      refine x_get C Z 0 rfl rfl i_X7_X7_comesBefore (k := 7) (by decide) (List.mem_of_getElem? (i := 1) rfl) rfl dX7_comesBefore_47 ?_
      have q77 := (ck_some h76).1
      have h78 := (ck_some h76).2
      clear h76
      refine x_icmp_ne (tgt := 72) C dX7_comesBefore_50 (by decide) q70 q77 (fun c79 => ?_) (fun c79 => ?_)
      · have h80 := if_n h78 c79
        clear h78
        refine lv_aload_n C.1 C.2.1 dX7_comesBefore_72 rfl (lv_at hl 0 rfl) ?_
        refine lv_iload_n C.1 C.2.1 dX7_comesBefore_73 rfl (lv_at hl 1 rfl) ?_
        refine lv_iload_n C.1 C.2.1 dX7_comesBefore_74 rfl (lv_at hl 3 rfl) ?_
        refine x_iadd C dX7_comesBefore_75 ?_
        obtain ⟨r82, hr82, h83⟩ := bd_some h80
        clear h80
        refine x_callV_i_id (As := [.int (iI (v1 + ex2))]) (rest := []) (q0 := 0) C Z (k_X7_letterAt l g n aM sMv sMp sMt sMs sMc sMr (v1 + ex2) r82 hr82) gX7_comesBefore_X7_letterAt yk_X7_letterAt ⟨Nat.le_of_ble_eq_true rfl, Nat.le_of_ble_eq_true rfl⟩ rfl rfl ⟨Nat.zero_le _, Nat.zero_le _⟩ hl.1 rfl (Nat.le_of_ble_eq_true rfl) rfl dX7_comesBefore_76 (fun H locs Z => ?_)
        refine lv_aload_n C.1 C.2.1 dX7_comesBefore_79 rfl (lv_at hl 0 rfl) ?_
        refine x_get C Z 0 rfl rfl i_X7_X7_comesBefore (k := 6) (by decide) (List.mem_of_getElem? (i := 2) rfl) rfl dX7_comesBefore_80 ?_
        refine lv_iload_n C.1 C.2.1 dX7_comesBefore_83 rfl (lv_at hl 3 rfl) ?_
        have q84 := (ix_some h83).1
        have h85 := (ix_some h83).2
        clear h83
        refine x_iald C Z 5 rfl (by decide) q84 dX7_comesBefore_84 ?_
        refine x_bipush C dX7_comesBefore_85 (by decide) ?_
        refine x_isub C dX7_comesBefore_87 ?_
        have q86 := (ck_some h85).1
        have h87 := (ck_some h85).2
        clear h85
        have q88 := (ck_some h87).1
        have h89 := (ck_some h87).2
        clear h87
        refine x_icmp_ge (tgt := 95) C dX7_comesBefore_88 (by decide) q86 q88 (fun c90 => ?_) (fun c90 => ?_)
        · have h91 := if_n h89 c90
          clear h89
          refine x_iconst C dX7_comesBefore_95 ?_
          have h93 := Option.some.inj h91
          subst h93
          exact hRet _ _ _ _ (x_bool (Or.inl rfl)) Z dX7_comesBefore_96
        · have h92 := if_p h89 c90
          clear h89
          refine x_iconst C dX7_comesBefore_91 ?_
          refine lv_goto (tgt := 96) C.1 C.2.1 dX7_comesBefore_92 (by decide) ?_
          have h94 := Option.some.inj h92
          subst h94
          exact hRet _ _ _ _ (x_bool (Or.inr rfl)) Z dX7_comesBefore_96
      · have h81 := if_p h78 c79
        clear h78
        exact hJ53 v2 ex2 _ _ _ h81 Z (lv_sub hl [0, 2, 3] rfl)
  have hL2 : ∀ (k2 : Nat) (z2 : Int) (H : Heap) (locs : List Loc) (ls : Array Slot), lp (p_X7_comesBefore_b2 n sMp sMt v1 v2) k2 z2 = some ex2 → xSt g A s (wM g aM sMv sMp sMt sMs sMc sMr) H locs → lv_has ls 4 [(0, .ref (aM 0)), (1, .int (iI v1)), (2, .int (iI v2)), (3, .int (iI z2))] → W p l e rmX7_comesBefore s m args below meth c H locs 0 0 QQ (F0 m 2 ls []) := by
    intro k2
    induction k2 with
    | zero => intro z2 H locs ls h; exact (lp_0 h).elim
    | succ k2 ih2 =>
      intro z2 H locs ls h Z hl
      obtain ⟨x2, hb2, hx2⟩ := lp_s h
      clear h
      unfold p_X7_comesBefore_b2 at hb2
      refine lv_iload_n C.1 C.2.1 dX7_comesBefore_2 rfl (lv_at hl 3 rfl) ?_
      refine lv_iload_n C.1 C.2.1 dX7_comesBefore_3 rfl (lv_at hl 2 rfl) ?_
      have q42 := (ck_some hb2).1
      have h43 := (ck_some hb2).2
      clear hb2
      have q44 := (ck_some h43).1
      have h45 := (ck_some h43).2
      clear h43
      refine x_icmp_ge (tgt := 40) C dX7_comesBefore_4 (by decide) q42 q44 (fun c46 => ?_) (fun c46 => ?_)
      · have h47 := if_n h45 c46
        clear h45
        cases h47
        have h49 := lp_R hx2
        subst h49
        exact hK2 _ _ _ Z (lv_sub hl [0, 1, 2, 3] rfl)
      · have h48 := if_p h45 c46
        clear h45
        refine lv_iload_n C.1 C.2.1 dX7_comesBefore_7 rfl (lv_at hl 3 rfl) ?_
        refine lv_aload_n C.1 C.2.1 dX7_comesBefore_8 rfl (lv_at hl 0 rfl) ?_
        refine x_get C Z 0 rfl rfl i_X7_X7_comesBefore (k := 7) (by decide) (List.mem_of_getElem? (i := 1) rfl) rfl dX7_comesBefore_9 ?_
        have q50 := (ck_some h48).1
        have h51 := (ck_some h48).2
        clear h48
        refine x_icmp_ge (tgt := 40) C dX7_comesBefore_12 (by decide) q42 q50 (fun c52 => ?_) (fun c52 => ?_)
        · have h53 := if_n h51 c52
          clear h51
          cases h53
          have h55 := lp_R hx2
          subst h55
          exact hK2 _ _ _ Z (lv_sub hl [0, 1, 2, 3] rfl)
        · have h54 := if_p h51 c52
          clear h51
          refine lv_aload_n C.1 C.2.1 dX7_comesBefore_15 rfl (lv_at hl 0 rfl) ?_
          refine lv_iload_n C.1 C.2.1 dX7_comesBefore_16 rfl (lv_at hl 1 rfl) ?_
          refine lv_iload_n C.1 C.2.1 dX7_comesBefore_17 rfl (lv_at hl 3 rfl) ?_
          refine x_iadd C dX7_comesBefore_18 ?_
          obtain ⟨r56, hr56, h57⟩ := bd_some h54
          clear h54
          refine x_callV_i_id (As := [.int (iI (v1 + z2))]) (rest := []) (q0 := 0) C Z (k_X7_letterAt l g n aM sMv sMp sMt sMs sMc sMr (v1 + z2) r56 hr56) gX7_comesBefore_X7_letterAt yk_X7_letterAt ⟨Nat.le_of_ble_eq_true rfl, Nat.le_of_ble_eq_true rfl⟩ rfl rfl ⟨Nat.zero_le _, Nat.zero_le _⟩ hl.1 rfl (Nat.le_of_ble_eq_true rfl) rfl dX7_comesBefore_19 (fun H locs Z => ?_)
          refine lv_aload_n C.1 C.2.1 dX7_comesBefore_22 rfl (lv_at hl 0 rfl) ?_
          refine x_get C Z 0 rfl rfl i_X7_X7_comesBefore (k := 6) (by decide) (List.mem_of_getElem? (i := 2) rfl) rfl dX7_comesBefore_23 ?_
          refine lv_iload_n C.1 C.2.1 dX7_comesBefore_26 rfl (lv_at hl 3 rfl) ?_
          have q58 := (ix_some h57).1
          have h59 := (ix_some h57).2
          clear h57
          refine x_iald C Z 5 rfl (by decide) q58 dX7_comesBefore_27 ?_
          refine x_bipush C dX7_comesBefore_28 (by decide) ?_
          refine x_isub C dX7_comesBefore_30 ?_
          have q60 := (ck_some h59).1
          have h61 := (ck_some h59).2
          clear h59
          have q62 := (ck_some h61).1
          have h63 := (ck_some h61).2
          clear h61
          refine x_icmp_ne (tgt := 40) C dX7_comesBefore_31 (by decide) q60 q62 (fun c64 => ?_) (fun c64 => ?_)
          · have h65 := if_n h63 c64
            clear h63
            cases h65
            have h67 := lp_R hx2
            subst h67
            exact hK2 _ _ _ Z (lv_sub hl [0, 1, 2, 3] rfl)
          · have h66 := if_p h63 c64
            clear h63
            refine x_iinc (lv' := [(3, .int (iI (z2 + 1))), (0, .ref (aM 0)), (1, .int (iI v1)), (2, .int (iI v2))]) C dX7_comesBefore_34 hl (k := 3) rfl (by decide) rfl (fun ls hl => ?_)
            refine lv_goto (tgt := 2) C.1 C.2.1 dX7_comesBefore_37 (by decide) ?_
            cases h66
            exact ih2 (z2 + 1) _ _ _ (lp_L2 hx2) Z (lv_sub hl [1, 2, 3, 0] rfl)
  exact hL2 n 0 _ _ _ hl2 Z (lv_sub hl [1, 2, 3, 0] rfl)
