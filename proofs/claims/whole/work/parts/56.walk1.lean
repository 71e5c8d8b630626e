abbrev rmX7_distinct : Room := { frames := 1, cells := 0, slots := 0, locals := 22 }
theorem yk_X7_distinct : xY yX7_distinct RX7 cX7_distinct 3 (some .int) wsX7_distinct rmX7_distinct 0 := ⟨⟨_, rfl⟩, by decide +kernel, rfl, rfl⟩
theorem i_X7_X7_distinct : ∀ w ∈ u_ws RX7 TX7 23, w ∈ wsX7_distinct := fun _ h => List.mem_cons_of_mem _ (List.mem_append_right _ h)
set_option maxHeartbeats 4000000 in
set_option maxRecDepth 100000 in
theorem k_X7_distinct (l : Launch) (g : xG) (n : Nat) (aM : Nat → Nat) (sMv : MvS) (sMp : MpS) (sMt : MtS) (sMs : MsS) (sMc : McS) (sMr : MrS) (r : Int) (hf : p_X7_distinct n sMt sMs = some r) : xMi l yX7_distinct wsX7_distinct rmX7_distinct g [.ref (aM 0)] (wM g aM sMv sMp sMt sMs sMc sMr) (wM g aM sMv sMp sMt sMs sMc sMr) r := by
  refine x_ofW_i (own := RX7) (by decide) rfl rfl (Nat.le_of_ble_eq_true rfl) ?_
  intro p e s m args below meth c ls A QQ C hRet Z hl
  have hl : lv_has ls 3 [(0, .ref (aM 0))] := hl
  unfold p_X7_distinct at hf
  refine x_iconst C dX7_distinct_0 ?_
  refine lv_istore_n (lv' := [(1, .int (iI 0)), (0, .ref (aM 0))]) C.1 C.2.1 dX7_distinct_1 rfl hl (by decide) rfl (fun ls hl => ?_)
  refine x_iconst C dX7_distinct_2 ?_
  refine lv_istore_n (lv' := [(2, .int (iI 0)), (1, .int (iI 0)), (0, .ref (aM 0))]) C.1 C.2.1 dX7_distinct_3 rfl hl (by decide) rfl (fun ls hl => ?_)
  obtain ⟨ex4, hl4, h33⟩ := bd_some hf
  clear hf
  have hK4 : ∀ (H : Heap) (locs : List Loc) (ls : Array Slot), xSt g A s (wM g aM sMv sMp sMt sMs sMc sMr) H locs → lv_has ls 3 [(1, .int (iI ex4))] → W p l e rmX7_distinct s m args below meth c H locs 0 0 QQ (F0 m 41 ls []) := by
    intro H locs ls Z hl
    have h34 := h33
    clear h33
    refine lv_iload_n C.1 C.2.1 dX7_distinct_41 rfl (lv_at hl 0 rfl) ?_
    have h35 := Option.some.inj h34
    subst h35
    exact hRet _ _ _ _ Z dX7_distinct_42
  have hL4 : ∀ (k4 : Nat) (z4 : Int × Int) (H : Heap) (locs : List Loc) (ls : Array Slot), lp (p_X7_distinct_b4 n sMt sMs) k4 z4 = some ex4 → xSt g A s (wM g aM sMv sMp sMt sMs sMc sMr) H locs → lv_has ls 3 [(0, .ref (aM 0)), (1, .int (iI z4.1)), (2, .int (iI z4.2))] → W p l e rmX7_distinct s m args below meth c H locs 0 0 QQ (F0 m 4 ls []) := by
    intro k4
    induction k4 with
    | zero => intro z4 H locs ls h; exact (lp_0 h).elim
    | succ k4 ih4 =>
      intro z4 H locs ls h Z hl
      obtain ⟨x4, hb4, hx4⟩ := lp_s h
      clear h
      unfold p_X7_distinct_b4 at hb4
      refine lv_iload_n C.1 C.2.1 dX7_distinct_4 rfl (lv_at hl 2 rfl) ?_
      refine lv_aload_n C.1 C.2.1 dX7_distinct_5 rfl (lv_at hl 0 rfl) ?_
      refine x_get C Z 0 rfl rfl i_X7_X7_distinct (k := 12) (by decide) (List.mem_of_getElem? (i := 1) rfl) rfl dX7_distinct_6 ?_
      refine x_iconst C dX7_distinct_9 ?_
      refine x_iald C Z 10 rfl (by decide) (by decide) dX7_distinct_10 ?_
      have q19 := (ck_some hb4).1
      have h20 := (ck_some hb4).2
      clear hb4
      have q21 := (ck_some h20).1
      have h22 := (ck_some h20).2
      clear h20
      refine x_icmp_ge (tgt := 41) C dX7_distinct_11 (by decide) q19 q21 (fun c23 => ?_) (fun c23 => ?_)
      · have h24 := if_n h22 c23
        clear h22
        cases h24
        have h26 := lp_R hx4
        subst h26
        exact hK4 _ _ _ Z (lv_sub hl [1] rfl)
      · have h25 := if_p h22 c23
        clear h22
        refine lv_iload_n C.1 C.2.1 dX7_distinct_14 rfl (lv_at hl 1 rfl) ?_
        refine lv_aload_n C.1 C.2.1 dX7_distinct_15 rfl (lv_at hl 0 rfl) ?_
        refine x_iconst C dX7_distinct_16 ?_
        refine lv_aload_n C.1 C.2.1 dX7_distinct_17 rfl (lv_at hl 0 rfl) ?_
        refine x_get C Z 0 rfl rfl i_X7_X7_distinct (k := 15) (by decide) (List.mem_of_getElem? (i := 2) rfl) rfl dX7_distinct_18 ?_
        refine lv_iload_n C.1 C.2.1 dX7_distinct_21 rfl (lv_at hl 2 rfl) ?_
        have q27 := (ix_some h25).1
        have h28 := (ix_some h25).2
        clear h25
        refine x_iald C Z 13 rfl (by decide) q27 dX7_distinct_22 ?_
        obtain ⟨r29, hr29, h30⟩ := bd_some h28
        clear h28
        refine x_callV_i_id (As := [.int (iI 0), .int (iI (sMs.sorted z4.2))]) (rest := [.int (iI z4.1)]) (q0 := 0) C Z (k_X7_rest l g n aM sMv sMp sMt sMs sMc sMr 0 (sMs.sorted z4.2) r29 hr29) gX7_distinct_X7_rest yk_X7_rest ⟨Nat.le_of_ble_eq_true rfl, Nat.le_of_ble_eq_true rfl⟩ rfl rfl ⟨Nat.zero_le _, Nat.zero_le _⟩ hl.1 rfl (Nat.le_of_ble_eq_true rfl) rfl dX7_distinct_23 (fun H locs Z => ?_)
        refine lv_aload_n C.1 C.2.1 dX7_distinct_26 rfl (lv_at hl 0 rfl) ?_
        refine x_get C Z 0 rfl rfl i_X7_X7_distinct (k := 16) (by decide) (List.mem_of_getElem? (i := 3) rfl) rfl dX7_distinct_27 ?_
        refine lv_iload_n C.1 C.2.1 dX7_distinct_30 rfl (lv_at hl 2 rfl) ?_
        refine x_iald C Z 14 rfl (by decide) q27 dX7_distinct_31 ?_
        refine x_isub C dX7_distinct_32 ?_
        refine x_iadd C dX7_distinct_33 ?_
        refine lv_istore_n (lv' := [(1, .int (iI (z4.1 + (r29 - (sMs.near z4.2))))), (0, .ref (aM 0)), (2, .int (iI z4.2))]) C.1 C.2.1 dX7_distinct_34 rfl hl (by decide) rfl (fun ls hl => ?_)
        refine x_iinc (lv' := [(2, .int (iI (z4.2 + 1))), (1, .int (iI (z4.1 + (r29 - (sMs.near z4.2))))), (0, .ref (aM 0))]) C dX7_distinct_35 hl (k := 2) rfl (by decide) rfl (fun ls hl => ?_)
        refine lv_goto (tgt := 4) C.1 C.2.1 dX7_distinct_38 (by decide) ?_
        cases h30
        exact ih4 (z4.1 + (r29 - (sMs.near z4.2)), z4.2 + 1) _ _ _ (lp_L2 hx4) Z (lv_sub hl [2, 1, 0] rfl)
  exact hL4 n (0, 0) _ _ _ hl4 Z (lv_sub hl [2, 1, 0] rfl)
abbrev rmX7_depth : Room := { frames := 0, cells := 0, slots := 0, locals := 0 }
theorem yk_X7_depth : xY yX7_depth RX7 cX7_depth 4 (some .int) wsX7_depth rmX7_depth 1 := ⟨⟨_, rfl⟩, by decide +kernel, rfl, rfl⟩
theorem i_X7_X7_depth : ∀ w ∈ u_ws RX7 TX7 23, w ∈ wsX7_depth := fun _ h => List.mem_cons_of_mem _ (List.mem_append_right _ h)
set_option maxHeartbeats 4000000 in
set_option maxRecDepth 100000 in
theorem k_X7_depth (l : Launch) (g : xG) (n : Nat) (aM : Nat → Nat) (sMv : MvS) (sMp : MpS) (sMt : MtS) (sMs : MsS) (sMc : McS) (sMr : MrS) (v1 : Int) (r : Int) (hf : p_X7_depth n sMv v1 = some r) : xMi l yX7_depth wsX7_depth rmX7_depth g [.ref (aM 0), .int (iI v1)] (wM g aM sMv sMp sMt sMs sMc sMr) (wM g aM sMv sMp sMt sMs sMc sMr) r := by
  refine x_ofW_i (own := RX7) (by decide) rfl rfl (Nat.le_of_ble_eq_true rfl) ?_
  intro p e s m args below meth c ls A QQ C hRet Z hl
  have hl : lv_has ls 4 [(0, .ref (aM 0)), (1, .int (iI v1))] := hl
  unfold p_X7_depth at hf
  refine x_iconst C dX7_depth_0 ?_
  refine lv_istore_n (lv' := [(2, .int (iI 0)), (0, .ref (aM 0)), (1, .int (iI v1))]) C.1 C.2.1 dX7_depth_1 rfl hl (by decide) rfl (fun ls hl => ?_)
  refine lv_iload_n C.1 C.2.1 dX7_depth_2 rfl (lv_at hl 2 rfl) ?_
  refine lv_istore_n (lv' := [(3, .int (iI v1)), (2, .int (iI 0)), (0, .ref (aM 0)), (1, .int (iI v1))]) C.1 C.2.1 dX7_depth_3 rfl hl (by decide) rfl (fun ls hl => ?_)
  obtain ⟨ex4, hl4, h17⟩ := bd_some hf
  clear hf
  have hK4 : ∀ (H : Heap) (locs : List Loc) (ls : Array Slot), xSt g A s (wM g aM sMv sMp sMt sMs sMc sMr) H locs → lv_has ls 4 [(2, .int (iI ex4))] → W p l e rmX7_depth s m args below meth c H locs 0 0 QQ (F0 m 21 ls []) := by
    intro H locs ls Z hl
    have h18 := h17
    clear h17
    refine lv_iload_n C.1 C.2.1 dX7_depth_21 rfl (lv_at hl 0 rfl) ?_
    have h19 := Option.some.inj h18
    subst h19
    exact hRet _ _ _ _ Z dX7_depth_22
  have hL4 : ∀ (k4 : Nat) (z4 : Int × Int) (H : Heap) (locs : List Loc) (ls : Array Slot), lp (p_X7_depth_b4 n sMv) k4 z4 = some ex4 → xSt g A s (wM g aM sMv sMp sMt sMs sMc sMr) H locs → lv_has ls 4 [(0, .ref (aM 0)), (2, .int (iI z4.1)), (3, .int (iI z4.2))] → W p l e rmX7_depth s m args below meth c H locs 0 0 QQ (F0 m 4 ls []) := by
    intro k4
    induction k4 with
    | zero => intro z4 H locs ls h; exact (lp_0 h).elim
    | succ k4 ih4 =>
      intro z4 H locs ls h Z hl
      obtain ⟨x4, hb4, hx4⟩ := lp_s h
      clear h
      unfold p_X7_depth_b4 at hb4
      refine lv_iload_n C.1 C.2.1 dX7_depth_4 rfl (lv_at hl 2 rfl) ?_
      have q9 := (ck_some hb4).1
      have h10 := (ck_some hb4).2
      clear hb4
      refine x_if_le (tgt := 21) C dX7_depth_5 (by decide) q9 (fun c11 => ?_) (fun c11 => ?_)
      · have h12 := if_n h10 c11
        clear h10
        cases h12
        have h14 := lp_R hx4
        subst h14
        exact hK4 _ _ _ Z (lv_sub hl [1] rfl)
      · have h13 := if_p h10 c11
        clear h10
        refine x_iinc (lv' := [(2, .int (iI (z4.1 + 1))), (0, .ref (aM 0)), (3, .int (iI z4.2))]) C dX7_depth_8 hl (k := 1) rfl (by decide) rfl (fun ls hl => ?_)
        refine lv_aload_n C.1 C.2.1 dX7_depth_11 rfl (lv_at hl 1 rfl) ?_
        refine x_get C Z 0 rfl rfl i_X7_X7_depth (k := 0) (by decide) (List.mem_of_getElem? (i := 1) rfl) rfl dX7_depth_12 ?_
        refine lv_iload_n C.1 C.2.1 dX7_depth_15 rfl (lv_at hl 2 rfl) ?_
        have q15 := (ix_some h13).1
        have h16 := (ix_some h13).2
        clear h13
        refine x_iald C Z 1 rfl (by decide) q15 dX7_depth_16 ?_
        refine lv_istore_n (lv' := [(3, .int (iI (sMv.parent z4.2))), (2, .int (iI (z4.1 + 1))), (0, .ref (aM 0))]) C.1 C.2.1 dX7_depth_17 rfl hl (by decide) rfl (fun ls hl => ?_)
        refine lv_goto (tgt := 4) C.1 C.2.1 dX7_depth_18 (by decide) ?_
        cases h16
        exact ih4 (z4.1 + 1, sMv.parent z4.2) _ _ _ (lp_L2 hx4) Z (lv_sub hl [2, 1, 0] rfl)
  exact hL4 n (0, v1) _ _ _ hl4 Z (lv_sub hl [2, 1, 0] rfl)
abbrev rmX7_children : Room := { frames := 0, cells := 0, slots := 0, locals := 0 }
theorem yk_X7_children : xY yX7_children RX7 cX7_children 4 (some .int) wsX7_children rmX7_children 1 := ⟨⟨_, rfl⟩, by decide +kernel, rfl, rfl⟩
theorem i_X7_X7_children : ∀ w ∈ u_ws RX7 TX7 23, w ∈ wsX7_children := fun _ h => List.mem_cons_of_mem _ (List.mem_append_right _ h)
set_option maxHeartbeats 4000000 in
set_option maxRecDepth 100000 in
theorem k_X7_children (l : Launch) (g : xG) (n : Nat) (aM : Nat → Nat) (sMv : MvS) (sMp : MpS) (sMt : MtS) (sMs : MsS) (sMc : McS) (sMr : MrS) (v1 : Int) (r : Int) (hf : p_X7_children n sMv v1 = some r) : xMi l yX7_children wsX7_children rmX7_children g [.ref (aM 0), .int (iI v1)] (wM g aM sMv sMp sMt sMs sMc sMr) (wM g aM sMv sMp sMt sMs sMc sMr) r := by
  refine x_ofW_i (own := RX7) (by decide) rfl rfl (Nat.le_of_ble_eq_true rfl) ?_
  intro p e s m args below meth c ls A QQ C hRet Z hl
  have hl : lv_has ls 4 [(0, .ref (aM 0)), (1, .int (iI v1))] := hl
  unfold p_X7_children at hf
  refine x_iconst C dX7_children_0 ?_
  refine lv_istore_n (lv' := [(2, .int (iI 0)), (0, .ref (aM 0)), (1, .int (iI v1))]) C.1 C.2.1 dX7_children_1 rfl hl (by decide) rfl (fun ls hl => ?_)
  refine x_iconst C dX7_children_2 ?_
  refine lv_istore_n (lv' := [(3, .int (iI 1)), (2, .int (iI 0)), (0, .ref (aM 0)), (1, .int (iI v1))]) C.1 C.2.1 dX7_children_3 rfl hl (by decide) rfl (fun ls hl => ?_)
  obtain ⟨ex4, hl4, h35⟩ := bd_some hf
  clear hf
  have hK4 : ∀ (H : Heap) (locs : List Loc) (ls : Array Slot), xSt g A s (wM g aM sMv sMp sMt sMs sMc sMr) H locs → lv_has ls 4 [(2, .int (iI ex4))] → W p l e rmX7_children s m args below meth c H locs 0 0 QQ (F0 m 36 ls []) := by
    intro H locs ls Z hl
    have h36 := h35
    clear h35
    refine lv_iload_n C.1 C.2.1 dX7_children_36 rfl (lv_at hl 0 rfl) ?_
    have h37 := Option.some.inj h36
    subst h37
    exact hRet _ _ _ _ Z dX7_children_37
  have hL4 : ∀ (k4 : Nat) (z4 : Int × Int) (H : Heap) (locs : List Loc) (ls : Array Slot), lp (p_X7_children_b4 n sMv v1) k4 z4 = some ex4 → xSt g A s (wM g aM sMv sMp sMt sMs sMc sMr) H locs → lv_has ls 4 [(0, .ref (aM 0)), (1, .int (iI v1)), (2, .int (iI z4.1)), (3, .int (iI z4.2))] → W p l e rmX7_children s m args below meth c H locs 0 0 QQ (F0 m 4 ls []) := by
    intro k4
    induction k4 with
    | zero => intro z4 H locs ls h; exact (lp_0 h).elim
    | succ k4 ih4 =>
      intro z4 H locs ls h Z hl
      obtain ⟨x4, hb4, hx4⟩ := lp_s h
      clear h
      unfold p_X7_children_b4 at hb4
      refine lv_iload_n C.1 C.2.1 dX7_children_4 rfl (lv_at hl 3 rfl) ?_
      refine lv_aload_n C.1 C.2.1 dX7_children_5 rfl (lv_at hl 0 rfl) ?_
      refine x_get C Z 0 rfl rfl i_X7_X7_children (k := 4) (by decide) (List.mem_of_getElem? (i := 1) rfl) rfl dX7_children_6 ?_
      have q18 := (ck_some hb4).1
      have h19 := (ck_some hb4).2
      clear hb4
      have q20 := (ck_some h19).1
      have h21 := (ck_some h19).2
      clear h19
      refine x_icmp_ge (tgt := 36) C dX7_children_9 (by decide) q18 q20 (fun c22 => ?_) (fun c22 => ?_)
      · have h23 := if_n h21 c22
        clear h21
        cases h23
        have h25 := lp_R hx4
        subst h25
        exact hK4 _ _ _ Z (lv_sub hl [2] rfl)
      · have h24 := if_p h21 c22
        clear h21
        refine lv_iload_n C.1 C.2.1 dX7_children_12 rfl (lv_at hl 2 rfl) ?_
        refine lv_aload_n C.1 C.2.1 dX7_children_13 rfl (lv_at hl 0 rfl) ?_
        refine x_get C Z 0 rfl rfl i_X7_X7_children (k := 0) (by decide) (List.mem_of_getElem? (i := 2) rfl) rfl dX7_children_14 ?_
        refine lv_iload_n C.1 C.2.1 dX7_children_17 rfl (lv_at hl 3 rfl) ?_
        have q26 := (ix_some h24).1
        have h27 := (ix_some h24).2
        clear h24
        refine x_iald C Z 1 rfl (by decide) q26 dX7_children_18 ?_
        refine lv_iload_n C.1 C.2.1 dX7_children_19 rfl (lv_at hl 1 rfl) ?_
        have q28 := (ck_some h27).1
        have h29 := (ck_some h27).2
        clear h27
        have q30 := (ck_some h29).1
        have h31 := (ck_some h29).2
        clear h29
        refine x_icmp_ne (tgt := 27) C dX7_children_20 (by decide) q28 q30 (fun c32 => ?_) (fun c32 => ?_)
        · have h33 := if_n h31 c32
          clear h31
          refine x_iconst C dX7_children_27 ?_
          refine x_iadd C dX7_children_28 ?_
          refine lv_istore_n (lv' := [(2, .int (iI (z4.1 + 0))), (0, .ref (aM 0)), (1, .int (iI v1)), (3, .int (iI z4.2))]) C.1 C.2.1 dX7_children_29 rfl hl (by decide) rfl (fun ls hl => ?_)
          refine x_iinc (lv' := [(3, .int (iI (z4.2 + 1))), (2, .int (iI (z4.1 + 0))), (0, .ref (aM 0)), (1, .int (iI v1))]) C dX7_children_30 hl (k := 3) rfl (by decide) rfl (fun ls hl => ?_)
          refine lv_goto (tgt := 4) C.1 C.2.1 dX7_children_33 (by decide) ?_
          cases h33
          exact ih4 (z4.1 + 0, z4.2 + 1) _ _ _ (lp_L2 hx4) Z (lv_sub hl [2, 3, 1, 0] rfl)
        · have h34 := if_p h31 c32
          clear h31
          refine x_iconst C dX7_children_23 ?_
          refine lv_goto (tgt := 28) C.1 C.2.1 dX7_children_24 (by decide) ?_
          refine x_iadd C dX7_children_28 ?_
          refine lv_istore_n (lv' := [(2, .int (iI (z4.1 + 1))), (0, .ref (aM 0)), (1, .int (iI v1)), (3, .int (iI z4.2))]) C.1 C.2.1 dX7_children_29 rfl hl (by decide) rfl (fun ls hl => ?_)
          refine x_iinc (lv' := [(3, .int (iI (z4.2 + 1))), (2, .int (iI (z4.1 + 1))), (0, .ref (aM 0)), (1, .int (iI v1))]) C dX7_children_30 hl (k := 3) rfl (by decide) rfl (fun ls hl => ?_)
          refine lv_goto (tgt := 4) C.1 C.2.1 dX7_children_33 (by decide) ?_
          cases h34
          exact ih4 (z4.1 + 1, z4.2 + 1) _ _ _ (lp_L2 hx4) Z (lv_sub hl [2, 3, 1, 0] rfl)
  exact hL4 n (0, 1) _ _ _ hl4 Z (lv_sub hl [2, 3, 1, 0] rfl)
abbrev rmX7_version : Room := { frames := 4, cells := 0, slots := 0, locals := 93 }
theorem yk_X7_version : xY yX7_version RX7 cX7_version 3 (some .int) wsX7_version rmX7_version 2 := ⟨⟨_, rfl⟩, by decide +kernel, rfl, rfl⟩
theorem i_X7_X7_version : ∀ w ∈ u_ws RX7 TX7 23, w ∈ wsX7_version := fun _ h => List.mem_cons_of_mem _ (List.mem_append_right _ h)
set_option maxHeartbeats 4000000 in
set_option maxRecDepth 100000 in
theorem k_X7_version (l : Launch) (g : xG) (n : Nat) (aM : Nat → Nat) (sMv : MvS) (sMp : MpS) (sMt : MtS) (sMs : MsS) (sMc : McS) (sMr : MrS) (v1 : Int) (v2 : Int) (r : Int × MtS × MsS) (hf : p_X7_version n sMv sMt sMs v1 v2 = some r) : xMi l yX7_version wsX7_version rmX7_version g [.ref (aM 0), .int (iI v1), .int (iI v2)] (wM g aM sMv sMp sMt sMs sMc sMr) (wM g aM sMv sMp r.2.1 r.2.2 sMc sMr) r.1 := by
  refine x_ofW_i (own := RX7) (by decide) rfl rfl (Nat.le_of_ble_eq_true rfl) ?_
  intro p e s m args below meth c ls A QQ C hRet Z hl
  have hl : lv_has ls 3 [(0, .ref (aM 0)), (1, .int (iI v1)), (2, .int (iI v2))] := hl
  unfold p_X7_version at hf
  refine lv_aload_n C.1 C.2.1 dX7_version_0 rfl (lv_at hl 0 rfl) ?_
  refine lv_iload_n C.1 C.2.1 dX7_version_1 rfl (lv_at hl 1 rfl) ?_
  obtain ⟨r1, hr1, h2⟩ := bd_some hf
  clear hf
  refine x_callV_i_id (As := [.int (iI v1)]) (rest := []) (q0 := 0) C Z (k_X7_isVersion l g n aM sMv sMp sMt sMs sMc sMr v1 r1 hr1) gX7_version_X7_isVersion yk_X7_isVersion ⟨Nat.le_of_ble_eq_true rfl, Nat.le_of_ble_eq_true rfl⟩ rfl rfl ⟨Nat.zero_le _, Nat.zero_le _⟩ hl.1 rfl (Nat.le_of_ble_eq_true rfl) rfl dX7_version_2 (fun H locs Z => ?_)
  have q3 := (ck_some h2).1
  have h4 := (ck_some h2).2
  clear h2
  refine x_if_ne (tgt := 10) C dX7_version_5 (by decide) q3 (fun c5 => ?_) (fun c5 => ?_)
  · have h6 := if_n h4 c5
    clear h4
    refine lv_iload_n C.1 C.2.1 dX7_version_10 rfl (lv_at hl 2 rfl) ?_
    have q8 := (ck_some h6).1
    have h9 := (ck_some h6).2
    clear h6
    by_cases c10 : v2 = 0
    · have h11 := if_p h9 c10
      clear h9
      refine x_tin (tgt := 48) C dX7_version_11 q8 c10 (by decide) (by decide) (by rfl) (by decide) ?_
      refine lv_aload_n C.1 C.2.1 dX7_version_48 rfl (lv_at hl 0 rfl) ?_
      refine x_get C Z 0 rfl rfl i_X7_X7_version (k := 0) (by decide) (List.mem_of_getElem? (i := 1) rfl) rfl dX7_version_49 ?_
      refine lv_iload_n C.1 C.2.1 dX7_version_52 rfl (lv_at hl 1 rfl) ?_
      have q13 := (ix_some h11).1
      have h14 := (ix_some h11).2
      clear h11
      refine x_iald C Z 1 rfl (by decide) q13 dX7_version_53 ?_
      have h15 := Option.some.inj h14
      subst h15
      exact hRet _ _ _ _ Z dX7_version_54
    have h12 := if_n h9 c10
    clear h9
    by_cases c16 : v2 = 1
    · have h17 := if_p h12 c16
      clear h12
      refine x_tin (tgt := 55) C dX7_version_11 q8 c16 (by decide) (by decide) (by rfl) (by decide) ?_
      refine lv_aload_n C.1 C.2.1 dX7_version_55 rfl (lv_at hl 0 rfl) ?_
      refine lv_iload_n C.1 C.2.1 dX7_version_56 rfl (lv_at hl 1 rfl) ?_
      obtain ⟨r19, hr19, h20⟩ := bd_some h17
      clear h17
      refine x_callV_i_id (As := [.int (iI v1)]) (rest := []) (q0 := 0) C Z (k_X7_children l g n aM sMv sMp sMt sMs sMc sMr v1 r19 hr19) gX7_version_X7_children yk_X7_children ⟨Nat.le_of_ble_eq_true rfl, Nat.le_of_ble_eq_true rfl⟩ rfl rfl ⟨Nat.zero_le _, Nat.zero_le _⟩ hl.1 rfl (Nat.le_of_ble_eq_true rfl) rfl dX7_version_57 (fun H locs Z => ?_)
      have h21 := Option.some.inj h20
      subst h21
      exact hRet _ _ _ _ Z dX7_version_60
    have h18 := if_n h12 c16
    clear h12
    by_cases c22 : v2 = 2
    · have h23 := if_p h18 c22
      clear h18
      refine x_tin (tgt := 61) C dX7_version_11 q8 c22 (by decide) (by decide) (by rfl) (by decide) ?_
      refine lv_aload_n C.1 C.2.1 dX7_version_61 rfl (lv_at hl 0 rfl) ?_
      refine x_get C Z 0 rfl rfl i_X7_X7_version (k := 2) (by decide) (List.mem_of_getElem? (i := 2) rfl) rfl dX7_version_62 ?_
      refine lv_iload_n C.1 C.2.1 dX7_version_65 rfl (lv_at hl 1 rfl) ?_
      have q25 := (ix_some h23).1
      have h26 := (ix_some h23).2
      clear h23
      refine x_iald C Z 3 rfl (by decide) q25 dX7_version_66 ?_
      have h27 := Option.some.inj h26
      subst h27
      exact hRet _ _ _ _ Z dX7_version_67
    have h24 := if_n h18 c22
    clear h18
    by_cases c28 : v2 = 3
    · have h29 := if_p h24 c28
      clear h24
      refine x_tin (tgt := 68) C dX7_version_11 q8 c28 (by decide) (by decide) (by rfl) (by decide) ?_
      refine lv_aload_n C.1 C.2.1 dX7_version_68 rfl (lv_at hl 0 rfl) ?_
      refine x_get C Z 0 rfl rfl i_X7_X7_version (k := 3) (by decide) (List.mem_of_getElem? (i := 3) rfl) rfl dX7_version_69 ?_
      refine lv_iload_n C.1 C.2.1 dX7_version_72 rfl (lv_at hl 1 rfl) ?_
      have q31 := (ix_some h29).1
      have h32 := (ix_some h29).2
      clear h29
      refine x_iald C Z 4 rfl (by decide) q31 dX7_version_73 ?_
      have h33 := Option.some.inj h32
      subst h33
      exact hRet _ _ _ _ Z dX7_version_74
    have h30 := if_n h24 c28
    clear h24
    by_cases c34 : v2 = 4
    · have h35 := if_p h30 c34
      clear h30
      refine x_tin (tgt := 75) C dX7_version_11 q8 c34 (by decide) (by decide) (by rfl) (by decide) ?_
      refine lv_aload_n C.1 C.2.1 dX7_version_75 rfl (lv_at hl 0 rfl) ?_
      refine lv_iload_n C.1 C.2.1 dX7_version_76 rfl (lv_at hl 1 rfl) ?_
      obtain ⟨r37, hr37, h38⟩ := bd_some h35
      clear h35
      refine x_callV_i_id (As := [.int (iI v1)]) (rest := []) (q0 := 0) C Z (k_X7_depth l g n aM sMv sMp sMt sMs sMc sMr v1 r37 hr37) gX7_version_X7_depth yk_X7_depth ⟨Nat.le_of_ble_eq_true rfl, Nat.le_of_ble_eq_true rfl⟩ rfl rfl ⟨Nat.zero_le _, Nat.zero_le _⟩ hl.1 rfl (Nat.le_of_ble_eq_true rfl) rfl dX7_version_77 (fun H locs Z => ?_)
      have h39 := Option.some.inj h38
      subst h39
      exact hRet _ _ _ _ Z dX7_version_80
    have h36 := if_n h30 c34
    clear h30
    by_cases c40 : v2 = 5
    · have h41 := if_p h36 c40
      clear h36
      refine x_tin (tgt := 81) C dX7_version_11 q8 c40 (by decide) (by decide) (by rfl) (by decide) ?_
      refine lv_aload_n C.1 C.2.1 dX7_version_81 rfl (lv_at hl 0 rfl) ?_
      refine x_iconst C dX7_version_82 ?_
      refine lv_iload_n C.1 C.2.1 dX7_version_83 rfl (lv_at hl 1 rfl) ?_
      obtain ⟨r43, hr43, h44⟩ := bd_some h41
      clear h41
      refine x_callV_v_id (As := [.int (iI 0), .int (iI v1)]) (rest := []) (q0 := 0) C Z (k_X7_lay l g n aM sMv sMp sMt sMs sMc sMr 0 v1 r43 hr43) gX7_version_X7_lay yk_X7_lay ⟨Nat.le_of_ble_eq_true rfl, Nat.le_of_ble_eq_true rfl⟩ rfl rfl ⟨Nat.zero_le _, Nat.zero_le _⟩ hl.1 rfl (Nat.le_of_ble_eq_true rfl) rfl dX7_version_84 (fun H locs Z => ?_)
      refine lv_aload_n C.1 C.2.1 dX7_version_87 rfl (lv_at hl 0 rfl) ?_
      obtain ⟨r45, hr45, h46⟩ := bd_some h44
      clear h44
      refine x_callV_v_id (As := []) (rest := []) (q0 := 0) C Z (k_X7_sort l g n aM sMv sMp r43 sMs sMc sMr r45 hr45) gX7_version_X7_sort yk_X7_sort ⟨Nat.le_of_ble_eq_true rfl, Nat.le_of_ble_eq_true rfl⟩ rfl rfl ⟨Nat.zero_le _, Nat.zero_le _⟩ hl.1 rfl (Nat.le_of_ble_eq_true rfl) rfl dX7_version_88 (fun H locs Z => ?_)
      refine lv_aload_n C.1 C.2.1 dX7_version_91 rfl (lv_at hl 0 rfl) ?_
      obtain ⟨r47, hr47, h48⟩ := bd_some h46
      clear h46
      refine x_callV_i_id (As := []) (rest := []) (q0 := 0) C Z (k_X7_distinct l g n aM sMv sMp r43 r45 sMc sMr r47 hr47) gX7_version_X7_distinct yk_X7_distinct ⟨Nat.le_of_ble_eq_true rfl, Nat.le_of_ble_eq_true rfl⟩ rfl rfl ⟨Nat.zero_le _, Nat.zero_le _⟩ hl.1 rfl (Nat.le_of_ble_eq_true rfl) rfl dX7_version_92 (fun H locs Z => ?_)
      have h49 := Option.some.inj h48
      subst h49
      exact hRet _ _ _ _ Z dX7_version_95
    have h42 := if_n h36 c40
    clear h36
    refine x_tout (tgt := 96) C dX7_version_11 q8 (by omega) (by decide) ?_
    refine x_bipush C dX7_version_96 (by decide) ?_
    have h50 := Option.some.inj h42
    subst h50
    exact hRet _ _ _ _ Z dX7_version_98
  · have h7 := if_p h4 c5
    clear h4
    refine x_iconst C dX7_version_8 ?_
    have h51 := Option.some.inj h7
    subst h51
    exact hRet _ _ _ _ Z dX7_version_9
abbrev rmX7_meet : Room := { frames := 2, cells := 0, slots := 0, locals := 43 }
theorem yk_X7_meet : xY yX7_meet RX7 cX7_meet 5 (some .int) wsX7_meet rmX7_meet 2 := ⟨⟨_, rfl⟩, by decide +kernel, rfl, rfl⟩
theorem i_X7_X7_meet : ∀ w ∈ u_ws RX7 TX7 23, w ∈ wsX7_meet := fun _ h => List.mem_cons_of_mem _ (List.mem_append_right _ h)
set_option maxHeartbeats 4000000 in
set_option maxRecDepth 100000 in
theorem k_X7_meet (l : Launch) (g : xG) (n : Nat) (aM : Nat → Nat) (sMv : MvS) (sMp : MpS) (sMt : MtS) (sMs : MsS) (sMc : McS) (sMr : MrS) (v1 : Int) (v2 : Int) (r : Int) (hf : p_X7_meet n sMv v1 v2 = some r) : xMi l yX7_meet wsX7_meet rmX7_meet g [.ref (aM 0), .int (iI v1), .int (iI v2)] (wM g aM sMv sMp sMt sMs sMc sMr) (wM g aM sMv sMp sMt sMs sMc sMr) r := by
  refine x_ofW_i (own := RX7) (by decide) rfl rfl (Nat.le_of_ble_eq_true rfl) ?_
  intro p e s m args below meth c ls A QQ C hRet Z hl
  have hl : lv_has ls 5 [(0, .ref (aM 0)), (1, .int (iI v1)), (2, .int (iI v2))] := hl
  unfold p_X7_meet at hf
  refine lv_aload_n C.1 C.2.1 dX7_meet_0 rfl (lv_at hl 0 rfl) ?_
  refine lv_iload_n C.1 C.2.1 dX7_meet_1 rfl (lv_at hl 1 rfl) ?_
  obtain ⟨r1, hr1, h2⟩ := bd_some hf
  clear hf
  refine x_callV_i_id (As := [.int (iI v1)]) (rest := []) (q0 := 0) C Z (k_X7_isVersion l g n aM sMv sMp sMt sMs sMc sMr v1 r1 hr1) gX7_meet_X7_isVersion yk_X7_isVersion ⟨Nat.le_of_ble_eq_true rfl, Nat.le_of_ble_eq_true rfl⟩ rfl rfl ⟨Nat.zero_le _, Nat.zero_le _⟩ hl.1 rfl (Nat.le_of_ble_eq_true rfl) rfl dX7_meet_2 (fun H locs Z => ?_)
  have q3 := (ck_some h2).1
  have h4 := (ck_some h2).2
  clear h2
  refine x_if_eq (tgt := 16) C dX7_meet_5 (by decide) q3 (fun c5 => ?_) (fun c5 => ?_)
  · have h6 := if_p h4 c5
    clear h4
    refine x_iconst C dX7_meet_16 ?_
    have h8 := Option.some.inj h6
    subst h8
    exact hRet _ _ _ _ Z dX7_meet_17
  · have h7 := if_n h4 c5
    clear h4
    refine lv_aload_n C.1 C.2.1 dX7_meet_8 rfl (lv_at hl 0 rfl) ?_
    refine lv_iload_n C.1 C.2.1 dX7_meet_9 rfl (lv_at hl 2 rfl) ?_
    obtain ⟨r9, hr9, h10⟩ := bd_some h7
    clear h7
    refine x_callV_i_id (As := [.int (iI v2)]) (rest := []) (q0 := 0) C Z (k_X7_isVersion l g n aM sMv sMp sMt sMs sMc sMr v2 r9 hr9) gX7_meet_X7_isVersion yk_X7_isVersion ⟨Nat.le_of_ble_eq_true rfl, Nat.le_of_ble_eq_true rfl⟩ rfl rfl ⟨Nat.zero_le _, Nat.zero_le _⟩ hl.1 rfl (Nat.le_of_ble_eq_true rfl) rfl dX7_meet_10 (fun H locs Z => ?_)
    have q11 := (ck_some h10).1
    have h12 := (ck_some h10).2
    clear h10
    refine x_if_ne (tgt := 18) C dX7_meet_13 (by decide) q11 (fun c13 => ?_) (fun c13 => ?_)
    · have h14 := if_n h12 c13
      clear h12
      refine lv_iload_n C.1 C.2.1 dX7_meet_18 rfl (lv_at hl 1 rfl) ?_
      refine lv_istore_n (lv' := [(3, .int (iI v1)), (0, .ref (aM 0)), (1, .int (iI v1)), (2, .int (iI v2))]) C.1 C.2.1 dX7_meet_19 rfl hl (by decide) rfl (fun ls hl => ?_)
      refine lv_iload_n C.1 C.2.1 dX7_meet_20 rfl (lv_at hl 3 rfl) ?_
      refine lv_istore (lv' := [(4, .int (iI v2)), (3, .int (iI v1)), (0, .ref (aM 0)), (1, .int (iI v1)), (2, .int (iI v2))]) C.1 C.2.1 dX7_meet_21 hl (by decide) rfl (fun ls hl => ?_)
      obtain ⟨ex23, hl23, h46⟩ := bd_some h14
      clear h14
      have hK23 : ∀ (H : Heap) (locs : List Loc) (ls : Array Slot), xSt g A s (wM g aM sMv sMp sMt sMs sMc sMr) H locs → lv_has ls 5 [(3, .int (iI ex23))] → W p l e rmX7_meet s m args below meth c H locs 0 0 QQ (F0 m 57 ls []) := by
        intro H locs ls Z hl
        have h47 := h46
        clear h46
        refine lv_iload_n C.1 C.2.1 dX7_meet_57 rfl (lv_at hl 0 rfl) ?_
        have h48 := Option.some.inj h47
        subst h48
        exact hRet _ _ _ _ Z dX7_meet_58
      have hL23 : ∀ (k23 : Nat) (z23 : Int × Int) (H : Heap) (locs : List Loc) (ls : Array Slot), lp (p_X7_meet_b23 n sMv) k23 z23 = some ex23 → xSt g A s (wM g aM sMv sMp sMt sMs sMc sMr) H locs → lv_has ls 5 [(0, .ref (aM 0)), (3, .int (iI z23.1)), (4, .int (iI z23.2))] → W p l e rmX7_meet s m args below meth c H locs 0 0 QQ (F0 m 23 ls []) := by
        intro k23
        induction k23 with
        | zero => intro z23 H locs ls h; exact (lp_0 h).elim
        | succ k23 ih23 =>
          intro z23 H locs ls h Z hl
          obtain ⟨x23, hb23, hx23⟩ := lp_s h
          clear h
          unfold p_X7_meet_b23 at hb23
          refine lv_iload_n C.1 C.2.1 dX7_meet_23 rfl (lv_at hl 1 rfl) ?_
          refine lv_iload C.1 C.2.1 dX7_meet_24 (lv_at hl 2 rfl) ?_
          have q31 := (ck_some hb23).1
          have h32 := (ck_some hb23).2
          clear hb23
          have q33 := (ck_some h32).1
          have h34 := (ck_some h32).2
          clear h32
          refine x_icmp_eq (tgt := 57) C dX7_meet_26 (by decide) q31 q33 (fun c35 => ?_) (fun c35 => ?_)
          · have h36 := if_p h34 c35
            clear h34
            cases h36
            have h38 := lp_R hx23
            subst h38
            exact hK23 _ _ _ Z (lv_sub hl [1] rfl)
          · have h37 := if_n h34 c35
            clear h34
            refine lv_iload_n C.1 C.2.1 dX7_meet_29 rfl (lv_at hl 1 rfl) ?_
            refine lv_iload C.1 C.2.1 dX7_meet_30 (lv_at hl 2 rfl) ?_
            refine x_icmp_le (tgt := 45) C dX7_meet_32 (by decide) q31 q33 (fun c39 => ?_) (fun c39 => ?_)
            · have h40 := if_n h37 c39
              clear h37
              refine lv_aload_n C.1 C.2.1 dX7_meet_45 rfl (lv_at hl 0 rfl) ?_
              refine x_get C Z 0 rfl rfl i_X7_X7_meet (k := 0) (by decide) (List.mem_of_getElem? (i := 1) rfl) rfl dX7_meet_46 ?_
              refine lv_iload C.1 C.2.1 dX7_meet_49 (lv_at hl 2 rfl) ?_
              have q42 := (ix_some h40).1
              have h43 := (ix_some h40).2
              clear h40
              refine x_iald C Z 1 rfl (by decide) q42 dX7_meet_51 ?_
              refine lv_istore (lv' := [(4, .int (iI (sMv.parent z23.2))), (0, .ref (aM 0)), (3, .int (iI z23.1))]) C.1 C.2.1 dX7_meet_52 hl (by decide) rfl (fun ls hl => ?_)
              refine lv_goto (tgt := 23) C.1 C.2.1 dX7_meet_54 (by decide) ?_
              cases h43
              exact ih23 (z23.1, sMv.parent z23.2) _ _ _ (lp_L2 hx23) Z (lv_sub hl [1, 2, 0] rfl)
            · have h41 := if_p h37 c39
              clear h37
              refine lv_aload_n C.1 C.2.1 dX7_meet_35 rfl (lv_at hl 0 rfl) ?_
              refine x_get C Z 0 rfl rfl i_X7_X7_meet (k := 0) (by decide) (List.mem_of_getElem? (i := 1) rfl) rfl dX7_meet_36 ?_
              refine lv_iload_n C.1 C.2.1 dX7_meet_39 rfl (lv_at hl 1 rfl) ?_
              have q44 := (ix_some h41).1
              have h45 := (ix_some h41).2
              clear h41
              refine x_iald C Z 1 rfl (by decide) q44 dX7_meet_40 ?_
              refine lv_istore_n (lv' := [(3, .int (iI (sMv.parent z23.1))), (0, .ref (aM 0)), (4, .int (iI z23.2))]) C.1 C.2.1 dX7_meet_41 rfl hl (by decide) rfl (fun ls hl => ?_)
              refine lv_goto (tgt := 23) C.1 C.2.1 dX7_meet_42 (by decide) ?_
              cases h45
              exact ih23 (sMv.parent z23.1, z23.2) _ _ _ (lp_L2 hx23) Z (lv_sub hl [1, 0, 2] rfl)
      exact hL23 n (v1, v2) _ _ _ hl23 Z (lv_sub hl [2, 1, 0] rfl)
    · have h15 := if_p h12 c13
      clear h12
      refine x_iconst C dX7_meet_16 ?_
      have h49 := Option.some.inj h15
      subst h49
      exact hRet _ _ _ _ Z dX7_meet_17
abbrev rmX7_more : Room := { frames := 4, cells := 0, slots := 0, locals := 93 }
theorem yk_X7_more : xY yX7_more RX7 cX7_more 8 (some .int) wsX7_more rmX7_more 2 := ⟨⟨_, rfl⟩, by decide +kernel, rfl, rfl⟩
theorem i_X7_X7_more : ∀ w ∈ u_ws RX7 TX7 23, w ∈ wsX7_more := fun _ h => List.mem_cons_of_mem _ (List.mem_append_right _ h)
set_option maxHeartbeats 4000000 in
set_option maxRecDepth 100000 in
theorem k_X7_more (l : Launch) (g : xG) (n : Nat) (aM : Nat → Nat) (sMv : MvS) (sMp : MpS) (sMt : MtS) (sMs : MsS) (sMc : McS) (sMr : MrS) (v1 : Int) (v2 : Int) (r : Int × MtS × MsS) (hf : p_X7_more n sMv sMt sMs v1 v2 = some r) : xMi l yX7_more wsX7_more rmX7_more g [.ref (aM 0), .int (iI v1), .int (iI v2)] (wM g aM sMv sMp sMt sMs sMc sMr) (wM g aM sMv sMp r.2.1 r.2.2 sMc sMr) r.1 := by
  refine x_ofW_i (own := RX7) (by decide) rfl rfl (Nat.le_of_ble_eq_true rfl) ?_
  intro p e s m args below meth c ls A QQ C hRet Z hl
  have hl : lv_has ls 8 [(0, .ref (aM 0)), (1, .int (iI v1)), (2, .int (iI v2))] := hl
  unfold p_X7_more at hf
  refine lv_aload_n C.1 C.2.1 dX7_more_0 rfl (lv_at hl 0 rfl) ?_
  refine lv_iload_n C.1 C.2.1 dX7_more_1 rfl (lv_at hl 1 rfl) ?_
  obtain ⟨r1, hr1, h2⟩ := bd_some hf
  clear hf
  refine x_callV_i_id (As := [.int (iI v1)]) (rest := []) (q0 := 0) C Z (k_X7_isVersion l g n aM sMv sMp sMt sMs sMc sMr v1 r1 hr1) gX7_more_X7_isVersion yk_X7_isVersion ⟨Nat.le_of_ble_eq_true rfl, Nat.le_of_ble_eq_true rfl⟩ rfl rfl ⟨Nat.zero_le _, Nat.zero_le _⟩ hl.1 rfl (Nat.le_of_ble_eq_true rfl) rfl dX7_more_2 (fun H locs Z => ?_)
  have q3 := (ck_some h2).1
  have h4 := (ck_some h2).2
  clear h2
  refine x_if_eq (tgt := 16) C dX7_more_5 (by decide) q3 (fun c5 => ?_) (fun c5 => ?_)
  · have h6 := if_p h4 c5
    clear h4
    refine x_iconst C dX7_more_16 ?_
    have h8 := Option.some.inj h6
    subst h8
    exact hRet _ _ _ _ Z dX7_more_17
  · have h7 := if_n h4 c5
    clear h4
    refine lv_aload_n C.1 C.2.1 dX7_more_8 rfl (lv_at hl 0 rfl) ?_
    refine lv_iload_n C.1 C.2.1 dX7_more_9 rfl (lv_at hl 2 rfl) ?_
    obtain ⟨r9, hr9, h10⟩ := bd_some h7
    clear h7
    refine x_callV_i_id (As := [.int (iI v2)]) (rest := []) (q0 := 0) C Z (k_X7_isVersion l g n aM sMv sMp sMt sMs sMc sMr v2 r9 hr9) gX7_more_X7_isVersion yk_X7_isVersion ⟨Nat.le_of_ble_eq_true rfl, Nat.le_of_ble_eq_true rfl⟩ rfl rfl ⟨Nat.zero_le _, Nat.zero_le _⟩ hl.1 rfl (Nat.le_of_ble_eq_true rfl) rfl dX7_more_10 (fun H locs Z => ?_)
    have q11 := (ck_some h10).1
    have h12 := (ck_some h10).2
    clear h10
    refine x_if_ne (tgt := 18) C dX7_more_13 (by decide) q11 (fun c13 => ?_) (fun c13 => ?_)
    · have h14 := if_n h12 c13
      clear h12
      refine lv_aload_n C.1 C.2.1 dX7_more_18 rfl (lv_at hl 0 rfl) ?_
      refine x_iconst C dX7_more_19 ?_
      refine lv_iload_n C.1 C.2.1 dX7_more_20 rfl (lv_at hl 1 rfl) ?_
      obtain ⟨r16, hr16, h17⟩ := bd_some h14
      clear h14
      refine x_callV_v_id (As := [.int (iI 0), .int (iI v1)]) (rest := []) (q0 := 0) C Z (k_X7_lay l g n aM sMv sMp sMt sMs sMc sMr 0 v1 r16 hr16) gX7_more_X7_lay yk_X7_lay ⟨Nat.le_of_ble_eq_true rfl, Nat.le_of_ble_eq_true rfl⟩ rfl rfl ⟨Nat.zero_le _, Nat.zero_le _⟩ hl.1 rfl (Nat.le_of_ble_eq_true rfl) rfl dX7_more_21 (fun H locs Z => ?_)
      refine lv_aload_n C.1 C.2.1 dX7_more_24 rfl (lv_at hl 0 rfl) ?_
      obtain ⟨r18, hr18, h19⟩ := bd_some h17
      clear h17
      refine x_callV_v_id (As := []) (rest := []) (q0 := 0) C Z (k_X7_sort l g n aM sMv sMp r16 sMs sMc sMr r18 hr18) gX7_more_X7_sort yk_X7_sort ⟨Nat.le_of_ble_eq_true rfl, Nat.le_of_ble_eq_true rfl⟩ rfl rfl ⟨Nat.zero_le _, Nat.zero_le _⟩ hl.1 rfl (Nat.le_of_ble_eq_true rfl) rfl dX7_more_25 (fun H locs Z => ?_)
      refine lv_aload_n C.1 C.2.1 dX7_more_28 rfl (lv_at hl 0 rfl) ?_
      refine x_iconst C dX7_more_29 ?_
      refine lv_iload_n C.1 C.2.1 dX7_more_30 rfl (lv_at hl 2 rfl) ?_
      obtain ⟨r20, hr20, h21⟩ := bd_some h19
      clear h19
      refine x_callV_v_id (As := [.int (iI 1), .int (iI v2)]) (rest := []) (q0 := 0) C Z (k_X7_lay l g n aM sMv sMp r16 r18 sMc sMr 1 v2 r20 hr20) gX7_more_X7_lay yk_X7_lay ⟨Nat.le_of_ble_eq_true rfl, Nat.le_of_ble_eq_true rfl⟩ rfl rfl ⟨Nat.zero_le _, Nat.zero_le _⟩ hl.1 rfl (Nat.le_of_ble_eq_true rfl) rfl dX7_more_31 (fun H locs Z => ?_)
      refine x_iconst C dX7_more_34 ?_
      refine lv_istore_n (lv' := [(3, .int (iI 0)), (0, .ref (aM 0)), (1, .int (iI v1)), (2, .int (iI v2))]) C.1 C.2.1 dX7_more_35 rfl hl (by decide) rfl (fun ls hl => ?_)
      refine x_iconst C dX7_more_36 ?_
      refine lv_istore (lv' := [(4, .int (iI 0)), (3, .int (iI 0)), (0, .ref (aM 0)), (1, .int (iI v1)), (2, .int (iI v2))]) C.1 C.2.1 dX7_more_37 hl (by decide) rfl (fun ls hl => ?_)
      obtain ⟨ex39, hl39, h142⟩ := bd_some h21
      clear h21
      have hK39 : ∀ (H : Heap) (locs : List Loc) (ls : Array Slot), xSt g A s (wM g aM sMv sMp r20 r18 sMc sMr) H locs → lv_has ls 8 [(3, .int (iI ex39))] → W p l e rmX7_more s m args below meth c H locs 0 0 QQ (F0 m 136 ls []) := by
        intro H locs ls Z hl
        have h143 := h142
        clear h142
        refine lv_iload_n C.1 C.2.1 dX7_more_136 rfl (lv_at hl 0 rfl) ?_
        have h144 := Option.some.inj h143
        subst h144
        exact hRet _ _ _ _ Z dX7_more_137
      have hL39 : ∀ (k39 : Nat) (z39 : Int × Int) (H : Heap) (locs : List Loc) (ls : Array Slot), lp (p_X7_more_b39 n r20 r18) k39 z39 = some ex39 → xSt g A s (wM g aM sMv sMp r20 r18 sMc sMr) H locs → lv_has ls 8 [(0, .ref (aM 0)), (3, .int (iI z39.1)), (4, .int (iI z39.2))] → W p l e rmX7_more s m args below meth c H locs 0 0 QQ (F0 m 39 ls []) := by
        intro k39
        induction k39 with
        | zero => intro z39 H locs ls h; exact (lp_0 h).elim
        | succ k39 ih39 =>
          intro z39 H locs ls h Z hl
          obtain ⟨x39, hb39, hx39⟩ := lp_s h
          clear h
          unfold p_X7_more_b39 at hb39
          refine lv_iload C.1 C.2.1 dX7_more_39 (lv_at hl 2 rfl) ?_
          refine lv_aload_n C.1 C.2.1 dX7_more_41 rfl (lv_at hl 0 rfl) ?_
          refine x_get C Z 0 rfl rfl i_X7_X7_more (k := 12) (by decide) (List.mem_of_getElem? (i := 1) rfl) rfl dX7_more_42 ?_
          refine x_iconst C dX7_more_45 ?_
          refine x_iald C Z 10 rfl (by decide) (by decide) dX7_more_46 ?_
          have q84 := (ck_some hb39).1
          have h85 := (ck_some hb39).2
          clear hb39
          have q86 := (ck_some h85).1
          have h87 := (ck_some h85).2
          clear h85
          refine x_icmp_ge (tgt := 136) C dX7_more_47 (by decide) q84 q86 (fun c88 => ?_) (fun c88 => ?_)
          · have h89 := if_n h87 c88
            clear h87
            cases h89
            have h91 := lp_R hx39
            subst h91
            exact hK39 _ _ _ Z (lv_sub hl [1] rfl)
          · have h90 := if_p h87 c88
            clear h87
            refine lv_aload_n C.1 C.2.1 dX7_more_50 rfl (lv_at hl 0 rfl) ?_
            refine x_get C Z 0 rfl rfl i_X7_X7_more (k := 16) (by decide) (List.mem_of_getElem? (i := 2) rfl) rfl dX7_more_51 ?_
            refine lv_iload C.1 C.2.1 dX7_more_54 (lv_at hl 2 rfl) ?_
            have q92 := (ix_some h90).1
            have h93 := (ix_some h90).2
            clear h90
            refine x_iald C Z 14 rfl (by decide) q92 dX7_more_56 ?_
            refine lv_istore (lv' := [(5, .int (iI (r18.near z39.2))), (0, .ref (aM 0)), (3, .int (iI z39.1)), (4, .int (iI z39.2))]) C.1 C.2.1 dX7_more_57 hl (by decide) rfl (fun ls hl => ?_)
            refine x_iconst C dX7_more_59 ?_
            refine lv_istore (lv' := [(6, .int (iI 0)), (5, .int (iI (r18.near z39.2))), (0, .ref (aM 0)), (3, .int (iI z39.1)), (4, .int (iI z39.2))]) C.1 C.2.1 dX7_more_60 hl (by decide) rfl (fun ls hl => ?_)
            obtain ⟨ex62, hl62, h136⟩ := bd_some h93
            clear h93
            have hK62 : ∀ (H : Heap) (locs : List Loc) (ls : Array Slot), xSt g A s (wM g aM sMv sMp r20 r18 sMc sMr) H locs → lv_has ls 8 [(0, .ref (aM 0)), (3, .int (iI z39.1)), (4, .int (iI z39.2)), (5, .int (iI ex62))] → W p l e rmX7_more s m args below meth c H locs 0 0 QQ (F0 m 112 ls []) := by
              intro H locs ls Z hl
              have h137 := h136
              clear h136
              refine lv_iload_n C.1 C.2.1 dX7_more_112 rfl (lv_at hl 1 rfl) ?_
              refine lv_aload_n C.1 C.2.1 dX7_more_113 rfl (lv_at hl 0 rfl) ?_
              refine x_iconst C dX7_more_114 ?_
              refine lv_aload_n C.1 C.2.1 dX7_more_115 rfl (lv_at hl 0 rfl) ?_
              refine x_get C Z 0 rfl rfl i_X7_X7_more (k := 15) (by decide) (List.mem_of_getElem? (i := 3) rfl) rfl dX7_more_116 ?_
              refine lv_iload C.1 C.2.1 dX7_more_119 (lv_at hl 2 rfl) ?_
              have q138 := (ix_some h137).1
              have h139 := (ix_some h137).2
              clear h137
              refine x_iald C Z 13 rfl (by decide) q138 dX7_more_121 ?_
              obtain ⟨r140, hr140, h141⟩ := bd_some h139
              clear h139
              refine x_callV_i_id (As := [.int (iI 0), .int (iI (r18.sorted z39.2))]) (rest := [.int (iI z39.1)]) (q0 := 0) C Z (k_X7_rest l g n aM sMv sMp r20 r18 sMc sMr 0 (r18.sorted z39.2) r140 hr140) gX7_more_X7_rest yk_X7_rest ⟨Nat.le_of_ble_eq_true rfl, Nat.le_of_ble_eq_true rfl⟩ rfl rfl ⟨Nat.zero_le _, Nat.zero_le _⟩ hl.1 rfl (Nat.le_of_ble_eq_true rfl) rfl dX7_more_122 (fun H locs Z => ?_)
              refine lv_iload C.1 C.2.1 dX7_more_125 (lv_at hl 3 rfl) ?_
              refine x_isub C dX7_more_127 ?_
              refine x_iadd C dX7_more_128 ?_
              refine lv_istore_n (lv' := [(3, .int (iI (z39.1 + (r140 - ex62)))), (0, .ref (aM 0)), (4, .int (iI z39.2)), (5, .int (iI ex62))]) C.1 C.2.1 dX7_more_129 rfl hl (by decide) rfl (fun ls hl => ?_)
              refine x_iinc (lv' := [(4, .int (iI (z39.2 + 1))), (3, .int (iI (z39.1 + (r140 - ex62)))), (0, .ref (aM 0)), (5, .int (iI ex62))]) C dX7_more_130 hl (k := 2) rfl (by decide) rfl (fun ls hl => ?_)
              refine lv_goto (tgt := 39) C.1 C.2.1 dX7_more_133 (by decide) ?_
              cases h141
              exact ih39 (z39.1 + (r140 - ex62), z39.2 + 1) _ _ _ (lp_L2 hx39) Z (lv_sub hl [2, 1, 0] rfl)
            have hL62 : ∀ (k62 : Nat) (z62 : Int × Int) (H : Heap) (locs : List Loc) (ls : Array Slot), lp (p_X7_more_b62 n r20 r18 z39.2) k62 z62 = some ex62 → xSt g A s (wM g aM sMv sMp r20 r18 sMc sMr) H locs → lv_has ls 8 [(0, .ref (aM 0)), (3, .int (iI z39.1)), (4, .int (iI z39.2)), (5, .int (iI z62.1)), (6, .int (iI z62.2))] → W p l e rmX7_more s m args below meth c H locs 0 0 QQ (F0 m 62 ls []) := by
              intro k62
              induction k62 with
              | zero => intro z62 H locs ls h; exact (lp_0 h).elim
              | succ k62 ih62 =>
                intro z62 H locs ls h Z hl
                obtain ⟨x62, hb62, hx62⟩ := lp_s h
                clear h
                unfold p_X7_more_b62 at hb62
                refine lv_iload C.1 C.2.1 dX7_more_62 (lv_at hl 4 rfl) ?_
                refine lv_aload_n C.1 C.2.1 dX7_more_64 rfl (lv_at hl 0 rfl) ?_
                refine x_get C Z 0 rfl rfl i_X7_X7_more (k := 12) (by decide) (List.mem_of_getElem? (i := 1) rfl) rfl dX7_more_65 ?_
                refine x_iconst C dX7_more_68 ?_
                refine x_iald C Z 10 rfl (by decide) (by decide) dX7_more_69 ?_
                have q117 := (ck_some hb62).1
                have h118 := (ck_some hb62).2
                clear hb62
                have q119 := (ck_some h118).1
                have h120 := (ck_some h118).2
                clear h118
                refine x_icmp_ge (tgt := 112) C dX7_more_70 (by decide) q117 q119 (fun c121 => ?_) (fun c121 => ?_)
                · have h122 := if_n h120 c121
                  clear h120
                  cases h122
                  have h124 := lp_R hx62
                  subst h124
                  exact hK62 _ _ _ Z (lv_sub hl [0, 1, 2, 3] rfl)
                · have h123 := if_p h120 c121
                  clear h120
                  refine lv_aload_n C.1 C.2.1 dX7_more_73 rfl (lv_at hl 0 rfl) ?_
                  refine x_iconst C dX7_more_74 ?_
                  refine lv_aload_n C.1 C.2.1 dX7_more_75 rfl (lv_at hl 0 rfl) ?_
                  refine x_get C Z 0 rfl rfl i_X7_X7_more (k := 15) (by decide) (List.mem_of_getElem? (i := 3) rfl) rfl dX7_more_76 ?_
                  refine lv_iload C.1 C.2.1 dX7_more_79 (lv_at hl 2 rfl) ?_
                  have q125 := (ix_some h123).1
                  have h126 := (ix_some h123).2
                  clear h123
                  refine x_iald C Z 13 rfl (by decide) q125 dX7_more_81 ?_
                  refine x_iconst C dX7_more_82 ?_
                  refine lv_iload C.1 C.2.1 dX7_more_83 (lv_at hl 4 rfl) ?_
                  obtain ⟨r127, hr127, h128⟩ := bd_some h126
                  clear h126
                  refine x_callV_i_id (As := [.int (iI 0), .int (iI (r18.sorted z39.2)), .int (iI 1), .int (iI z62.2)]) (rest := []) (q0 := 0) C Z (k_X7_alike l g n aM sMv sMp r20 r18 sMc sMr 0 (r18.sorted z39.2) 1 z62.2 r127 hr127) gX7_more_X7_alike yk_X7_alike ⟨Nat.le_of_ble_eq_true rfl, Nat.le_of_ble_eq_true rfl⟩ rfl rfl ⟨Nat.zero_le _, Nat.zero_le _⟩ hl.1 rfl (Nat.le_of_ble_eq_true rfl) rfl dX7_more_85 (fun H locs Z => ?_)
                  refine lv_istore (lv' := [(7, .int (iI r127)), (0, .ref (aM 0)), (3, .int (iI z39.1)), (4, .int (iI z39.2)), (5, .int (iI z62.1)), (6, .int (iI z62.2))]) C.1 C.2.1 dX7_more_88 hl (by decide) rfl (fun ls hl => ?_)
                  refine lv_iload C.1 C.2.1 dX7_more_90 (lv_at hl 0 rfl) ?_
                  refine lv_iload C.1 C.2.1 dX7_more_92 (lv_at hl 4 rfl) ?_
                  have q129 := (ck_some h128).1
                  have h130 := (ck_some h128).2
                  clear h128
                  have q131 := (ck_some h130).1
                  have h132 := (ck_some h130).2
                  clear h130
                  refine x_icmp_le (tgt := 102) C dX7_more_94 (by decide) q129 q131 (fun c133 => ?_) (fun c133 => ?_)
                  · have h134 := if_n h132 c133
                    clear h132
                    refine lv_iload C.1 C.2.1 dX7_more_102 (lv_at hl 4 rfl) ?_
                    refine lv_istore (lv' := [(5, .int (iI z62.1)), (7, .int (iI r127)), (0, .ref (aM 0)), (3, .int (iI z39.1)), (4, .int (iI z39.2)), (6, .int (iI z62.2))]) C.1 C.2.1 dX7_more_104 hl (by decide) rfl (fun ls hl => ?_)
                    refine x_iinc (lv' := [(6, .int (iI (z62.2 + 1))), (5, .int (iI z62.1)), (7, .int (iI r127)), (0, .ref (aM 0)), (3, .int (iI z39.1)), (4, .int (iI z39.2))]) C dX7_more_106 hl (k := 5) rfl (by decide) rfl (fun ls hl => ?_)
                    refine lv_goto (tgt := 62) C.1 C.2.1 dX7_more_109 (by decide) ?_
                    cases h134
                    exact ih62 (z62.1, z62.2 + 1) _ _ _ (lp_L2 hx62) Z (lv_sub hl [3, 4, 5, 1, 0] rfl)
                  · have h135 := if_p h132 c133
                    clear h132
                    refine lv_iload C.1 C.2.1 dX7_more_97 (lv_at hl 0 rfl) ?_
                    refine lv_goto (tgt := 104) C.1 C.2.1 dX7_more_99 (by decide) ?_
                    refine lv_istore (lv' := [(5, .int (iI r127)), (7, .int (iI r127)), (0, .ref (aM 0)), (3, .int (iI z39.1)), (4, .int (iI z39.2)), (6, .int (iI z62.2))]) C.1 C.2.1 dX7_more_104 hl (by decide) rfl (fun ls hl => ?_)
                    refine x_iinc (lv' := [(6, .int (iI (z62.2 + 1))), (5, .int (iI r127)), (7, .int (iI r127)), (0, .ref (aM 0)), (3, .int (iI z39.1)), (4, .int (iI z39.2))]) C dX7_more_106 hl (k := 5) rfl (by decide) rfl (fun ls hl => ?_)
                    refine lv_goto (tgt := 62) C.1 C.2.1 dX7_more_109 (by decide) ?_
                    cases h135
                    exact ih62 (r127, z62.2 + 1) _ _ _ (lp_L2 hx62) Z (lv_sub hl [3, 4, 5, 1, 0] rfl)
            exact hL62 n (r18.near z39.2, 0) _ _ _ hl62 Z (lv_sub hl [2, 3, 4, 1, 0] rfl)
      exact hL39 n (0, 0) _ _ _ hl39 Z (lv_sub hl [2, 1, 0] rfl)
    · have h15 := if_p h12 c13
      clear h12
      refine x_iconst C dX7_more_16 ?_
      have h145 := Option.some.inj h15
      subst h145
      exact hRet _ _ _ _ Z dX7_more_17
abbrev rmX7_layPresent : Room := { frames := 1, cells := 0, slots := 0, locals := 25 }
theorem yk_X7_layPresent : xY yX7_layPresent RX7 cX7_layPresent 1 none wsX7_layPresent rmX7_layPresent 0 := ⟨⟨_, rfl⟩, by decide +kernel, rfl, rfl⟩
theorem i_X7_X7_layPresent : ∀ w ∈ u_ws RX7 TX7 23, w ∈ wsX7_layPresent := fun _ h => List.mem_cons_of_mem _ (List.mem_append_right _ h)
set_option maxHeartbeats 4000000 in
set_option maxRecDepth 100000 in
theorem k_X7_layPresent (l : Launch) (g : xG) (n : Nat) (aM : Nat → Nat) (sMv : MvS) (sMp : MpS) (sMt : MtS) (sMs : MsS) (sMc : McS) (sMr : MrS) (r : MtS) (hf : p_X7_layPresent n sMv sMt = some r) : xMv l yX7_layPresent wsX7_layPresent rmX7_layPresent g [.ref (aM 0)] (wM g aM sMv sMp sMt sMs sMc sMr) (wM g aM sMv sMp r sMs sMc sMr) := by
  refine x_ofW_v (own := RX7) (by decide) rfl rfl (Nat.le_of_ble_eq_true rfl) ?_
  intro p e s m args below meth c ls A QQ C hRet Z hl
  have hl : lv_has ls 1 [(0, .ref (aM 0))] := hl
  unfold p_X7_layPresent at hf
  refine lv_aload_n C.1 C.2.1 dX7_layPresent_0 rfl (lv_at hl 0 rfl) ?_
  refine x_iconst C dX7_layPresent_1 ?_
  refine lv_aload_n C.1 C.2.1 dX7_layPresent_2 rfl (lv_at hl 0 rfl) ?_
  refine x_get C Z 0 rfl rfl i_X7_X7_layPresent (k := 5) (by decide) (List.mem_of_getElem? (i := 1) rfl) rfl dX7_layPresent_3 ?_
  obtain ⟨r1, hr1, h2⟩ := bd_some hf
  clear hf
  refine x_callV_v_id (As := [.int (iI 0), .int (iI sMv.present)]) (rest := []) (q0 := 0) C Z (k_X7_lay l g n aM sMv sMp sMt sMs sMc sMr 0 sMv.present r1 hr1) gX7_layPresent_X7_lay yk_X7_lay ⟨Nat.le_of_ble_eq_true rfl, Nat.le_of_ble_eq_true rfl⟩ rfl rfl ⟨Nat.zero_le _, Nat.zero_le _⟩ hl.1 rfl (Nat.le_of_ble_eq_true rfl) rfl dX7_layPresent_6 (fun H locs Z => ?_)
  have h3 := Option.some.inj h2
  subst h3
  exact hRet _ _ _ _ Z dX7_layPresent_9
abbrev rmX7_letterAt : Room := { frames := 0, cells := 0, slots := 0, locals := 0 }
theorem yk_X7_letterAt : xY yX7_letterAt RX7 cX7_letterAt 2 (some .int) wsX7_letterAt rmX7_letterAt 1 := ⟨⟨_, rfl⟩, by decide +kernel, rfl, rfl⟩
theorem i_X7_X7_letterAt : ∀ w ∈ u_ws RX7 TX7 23, w ∈ wsX7_letterAt := fun _ h => List.mem_cons_of_mem _ (List.mem_append_right _ h)
set_option maxHeartbeats 4000000 in
set_option maxRecDepth 100000 in
theorem k_X7_letterAt (l : Launch) (g : xG) (n : Nat) (aM : Nat → Nat) (sMv : MvS) (sMp : MpS) (sMt : MtS) (sMs : MsS) (sMc : McS) (sMr : MrS) (v1 : Int) (r : Int) (hf : p_X7_letterAt sMt v1 = some r) : xMi l yX7_letterAt wsX7_letterAt rmX7_letterAt g [.ref (aM 0), .int (iI v1)] (wM g aM sMv sMp sMt sMs sMc sMr) (wM g aM sMv sMp sMt sMs sMc sMr) r := by
  refine x_ofW_i (own := RX7) (by decide) rfl rfl (Nat.le_of_ble_eq_true rfl) ?_
  intro p e s m args below meth c ls A QQ C hRet Z hl
  have hl : lv_has ls 2 [(0, .ref (aM 0)), (1, .int (iI v1))] := hl
  unfold p_X7_letterAt at hf
  refine lv_aload_n C.1 C.2.1 dX7_letterAt_0 rfl (lv_at hl 0 rfl) ?_
  refine x_get C Z 0 rfl rfl i_X7_X7_letterAt (k := 8) (by decide) (List.mem_of_getElem? (i := 1) rfl) rfl dX7_letterAt_1 ?_
  refine lv_iload_n C.1 C.2.1 dX7_letterAt_4 rfl (lv_at hl 1 rfl) ?_
  have q1 := (ix_some hf).1
  have h2 := (ix_some hf).2
  clear hf
  refine x_iald C Z 6 rfl (by decide) q1 dX7_letterAt_5 ?_
  have h3 := Option.some.inj h2
  subst h3
  exact hRet _ _ _ _ Z dX7_letterAt_6
abbrev rmX7_letter : Room := { frames := 2, cells := 0, slots := 0, locals := 45 }
theorem yk_X7_letter : xY yX7_letter RX7 cX7_letter 4 (some .int) wsX7_letter rmX7_letter 2 := ⟨⟨_, rfl⟩, by decide +kernel, rfl, rfl⟩
theorem i_X7_X7_letter : ∀ w ∈ u_ws RX7 TX7 23, w ∈ wsX7_letter := fun _ h => List.mem_cons_of_mem _ (List.mem_append_right _ h)
set_option maxHeartbeats 4000000 in
set_option maxRecDepth 100000 in
theorem k_X7_letter (l : Launch) (g : xG) (n : Nat) (aM : Nat → Nat) (sMv : MvS) (sMp : MpS) (sMt : MtS) (sMs : MsS) (sMc : McS) (sMr : MrS) (v1 : Int) (v2 : Int) (r : Int × MtS) (hf : p_X7_letter n sMv sMt v1 v2 = some r) : xMi l yX7_letter wsX7_letter rmX7_letter g [.ref (aM 0), .int (iI v1), .int (iI v2)] (wM g aM sMv sMp sMt sMs sMc sMr) (wM g aM sMv sMp r.2 sMs sMc sMr) r.1 := by
  refine x_ofW_i (own := RX7) (by decide) rfl rfl (Nat.le_of_ble_eq_true rfl) ?_
  intro p e s m args below meth c ls A QQ C hRet Z hl
  have hl : lv_has ls 4 [(0, .ref (aM 0)), (1, .int (iI v1)), (2, .int (iI v2))] := hl
  unfold p_X7_letter at hf
  refine lv_iload_n C.1 C.2.1 dX7_letter_0 rfl (lv_at hl 1 rfl) ?_
  refine x_iconst C dX7_letter_1 ?_
  refine lv_aload_n C.1 C.2.1 dX7_letter_2 rfl (lv_at hl 0 rfl) ?_
  refine x_get C Z 0 rfl rfl i_X7_X7_letter (k := 2) (by decide) (List.mem_of_getElem? (i := 1) rfl) rfl dX7_letter_3 ?_
  refine lv_aload_n C.1 C.2.1 dX7_letter_6 rfl (lv_at hl 0 rfl) ?_
  refine x_get C Z 0 rfl rfl i_X7_X7_letter (k := 5) (by decide) (List.mem_of_getElem? (i := 2) rfl) rfl dX7_letter_7 ?_
  have q1 := (ix_some hf).1
  have h2 := (ix_some hf).2
  clear hf
  refine x_iald C Z 3 rfl (by decide) q1 dX7_letter_10 ?_
  refine x_iconst C dX7_letter_11 ?_
  refine x_isub C dX7_letter_12 ?_
  obtain ⟨r3, hr3, h4⟩ := bd_some h2
  clear h2
  refine x_callS_i (As := [.int (iI v1), .int (iI 0), .int (iI ((sMv.wordMany sMv.present) - 1))]) (rest := []) C Z (k_X7_in l g n v1 0 ((sMv.wordMany sMv.present) - 1) r3 hr3) gX7_letter_X7_in yk_X7_in ⟨Nat.le_of_ble_eq_true rfl, Nat.le_of_ble_eq_true rfl⟩ ⟨Nat.zero_le _, Nat.zero_le _⟩ hl.1 rfl (Nat.le_of_ble_eq_true rfl) rfl dX7_letter_13 (fun H locs Z => ?_)
  have q5 := (ck_some h4).1
  have h6 := (ck_some h4).2
  clear h4
  refine x_if_ne (tgt := 21) C dX7_letter_16 (by decide) q5 (fun c7 => ?_) (fun c7 => ?_)
  · have h8 := if_n h6 c7
    clear h6
    refine lv_aload_n C.1 C.2.1 dX7_letter_21 rfl (lv_at hl 0 rfl) ?_
    obtain ⟨r10, hr10, h11⟩ := bd_some h8
    clear h8
    refine x_callV_v_id (As := []) (rest := []) (q0 := 0) C Z (k_X7_layPresent l g n aM sMv sMp sMt sMs sMc sMr r10 hr10) gX7_letter_X7_layPresent yk_X7_layPresent ⟨Nat.le_of_ble_eq_true rfl, Nat.le_of_ble_eq_true rfl⟩ rfl rfl ⟨Nat.zero_le _, Nat.zero_le _⟩ hl.1 rfl (Nat.le_of_ble_eq_true rfl) rfl dX7_letter_22 (fun H locs Z => ?_)
    refine lv_aload_n C.1 C.2.1 dX7_letter_25 rfl (lv_at hl 0 rfl) ?_
    refine x_get C Z 0 rfl rfl i_X7_X7_letter (k := 11) (by decide) (List.mem_of_getElem? (i := 3) rfl) rfl dX7_letter_26 ?_
    refine lv_iload_n C.1 C.2.1 dX7_letter_29 rfl (lv_at hl 1 rfl) ?_
    have q12 := (ix_some h11).1
    have h13 := (ix_some h11).2
    clear h11
    refine x_iald C Z 9 rfl (by decide) q12 dX7_letter_30 ?_
    refine lv_aload_n C.1 C.2.1 dX7_letter_31 rfl (lv_at hl 0 rfl) ?_
    refine x_get C Z 0 rfl rfl i_X7_X7_letter (k := 10) (by decide) (List.mem_of_getElem? (i := 4) rfl) rfl dX7_letter_32 ?_
    refine lv_iload_n C.1 C.2.1 dX7_letter_35 rfl (lv_at hl 1 rfl) ?_
    refine x_iald C Z 8 rfl (by decide) q12 dX7_letter_36 ?_
    refine x_isub C dX7_letter_37 ?_
    refine lv_istore_n (lv' := [(3, .int (iI ((r10.stop v1) - (r10.start v1)))), (0, .ref (aM 0)), (1, .int (iI v1)), (2, .int (iI v2))]) C.1 C.2.1 dX7_letter_38 rfl hl (by decide) rfl (fun ls hl => ?_)
    refine lv_iload_n C.1 C.2.1 dX7_letter_39 rfl (lv_at hl 3 rfl) ?_
    refine x_iconst C dX7_letter_40 ?_
    have q16 := (ck_some h13).1
    have h17 := (ck_some h13).2
    clear h13
    refine x_icmp_ne (tgt := 48) C dX7_letter_41 (by decide) q16 (by decide) (fun c18 => ?_) (fun c18 => ?_)
    · have h19 := if_n h17 c18
      clear h17
      refine lv_iload_n C.1 C.2.1 dX7_letter_48 rfl (lv_at hl 3 rfl) ?_
      refine x_iconst C dX7_letter_49 ?_
      refine lv_iload_n C.1 C.2.1 dX7_letter_50 rfl (lv_at hl 0 rfl) ?_
      refine x_iconst C dX7_letter_51 ?_
      refine x_isub C dX7_letter_52 ?_
      obtain ⟨r21, hr21, h22⟩ := bd_some h19
      clear h19
      refine x_callS_i (As := [.int (iI v2), .int (iI 0), .int (iI (((r10.stop v1) - (r10.start v1)) - 1))]) (rest := []) C Z (k_X7_in l g n v2 0 (((r10.stop v1) - (r10.start v1)) - 1) r21 hr21) gX7_letter_X7_in yk_X7_in ⟨Nat.le_of_ble_eq_true rfl, Nat.le_of_ble_eq_true rfl⟩ ⟨Nat.zero_le _, Nat.zero_le _⟩ hl.1 rfl (Nat.le_of_ble_eq_true rfl) rfl dX7_letter_53 (fun H locs Z => ?_)
      have q23 := (ck_some h22).1
      have h24 := (ck_some h22).2
      clear h22
      refine x_if_eq (tgt := 74) C dX7_letter_56 (by decide) q23 (fun c25 => ?_) (fun c25 => ?_)
      · have h26 := if_p h24 c25
        clear h24
        refine x_bipush C dX7_letter_74 (by decide) ?_
        have h28 := Option.some.inj h26
        subst h28
        exact hRet _ _ _ _ Z dX7_letter_76
      · have h27 := if_n h24 c25
        clear h24
        refine lv_aload_n C.1 C.2.1 dX7_letter_59 rfl (lv_at hl 1 rfl) ?_
        refine lv_aload_n C.1 C.2.1 dX7_letter_60 rfl (lv_at hl 1 rfl) ?_
        refine x_get C Z 0 rfl rfl i_X7_X7_letter (k := 10) (by decide) (List.mem_of_getElem? (i := 4) rfl) rfl dX7_letter_61 ?_
        refine lv_iload_n C.1 C.2.1 dX7_letter_64 rfl (lv_at hl 2 rfl) ?_
        refine x_iald C Z 8 rfl (by decide) q12 dX7_letter_65 ?_
        refine lv_iload_n C.1 C.2.1 dX7_letter_66 rfl (lv_at hl 3 rfl) ?_
        refine x_iadd C dX7_letter_67 ?_
        obtain ⟨r31, hr31, h32⟩ := bd_some h27
        clear h27
        refine x_callV_i_id (As := [.int (iI ((r10.start v1) + v2))]) (rest := []) (q0 := 0) C Z (k_X7_letterAt l g n aM sMv sMp r10 sMs sMc sMr ((r10.start v1) + v2) r31 hr31) gX7_letter_X7_letterAt yk_X7_letterAt ⟨Nat.le_of_ble_eq_true rfl, Nat.le_of_ble_eq_true rfl⟩ rfl rfl ⟨Nat.zero_le _, Nat.zero_le _⟩ hl.1 rfl (Nat.le_of_ble_eq_true rfl) rfl dX7_letter_68 (fun H locs Z => ?_)
        refine lv_goto (tgt := 76) C.1 C.2.1 dX7_letter_71 (by decide) ?_
        have h33 := Option.some.inj h32
        subst h33
        exact hRet _ _ _ _ Z dX7_letter_76
    · have h20 := if_p h17 c18
      clear h17
      refine lv_iload_n C.1 C.2.1 dX7_letter_44 rfl (lv_at hl 0 rfl) ?_
      refine lv_goto (tgt := 76) C.1 C.2.1 dX7_letter_45 (by decide) ?_
      have h34 := Option.some.inj h20
      subst h34
      exact hRet _ _ _ _ Z dX7_letter_76
  · have h9 := if_p h6 c7
    clear h6
    refine x_iconst C dX7_letter_19 ?_
    have h35 := Option.some.inj h9
    subst h35
    exact hRet _ _ _ _ Z dX7_letter_20
abbrev rmX7_say : Room := { frames := 1, cells := 0, slots := 0, locals := 22 }
theorem yk_X7_say : xY yX7_say RX7 cX7_say 2 (some .int) wsX7_say rmX7_say 1 := ⟨⟨_, rfl⟩, by decide +kernel, rfl, rfl⟩
theorem i_X7_X7_say : ∀ w ∈ u_ws RX7 TX7 23, w ∈ wsX7_say := fun _ h => List.mem_cons_of_mem _ (List.mem_append_right _ h)
set_option maxHeartbeats 4000000 in
set_option maxRecDepth 100000 in
theorem k_X7_say (l : Launch) (g : xG) (n : Nat) (aM : Nat → Nat) (sMv : MvS) (sMp : MpS) (sMt : MtS) (sMs : MsS) (sMc : McS) (sMr : MrS) (v1 : Int) (r : Int × MpS) (hf : p_X7_say sMp v1 = some r) : xMi l yX7_say wsX7_say rmX7_say g [.ref (aM 0), .int (iI v1)] (wM g aM sMv sMp sMt sMs sMc sMr) (wM g aM sMv r.2 sMt sMs sMc sMr) r.1 := by
  refine x_ofW_i (own := RX7) (by decide) rfl rfl (Nat.le_of_ble_eq_true rfl) ?_
  intro p e s m args below meth c ls A QQ C hRet Z hl
  have hl : lv_has ls 2 [(0, .ref (aM 0)), (1, .int (iI v1))] := hl
  unfold p_X7_say at hf
  refine lv_iload_n C.1 C.2.1 dX7_say_0 rfl (lv_at hl 1 rfl) ?_
  refine x_bipush C dX7_say_1 (by decide) ?_
  refine x_bipush C dX7_say_3 (by decide) ?_
  obtain ⟨r1, hr1, h2⟩ := bd_some hf
  clear hf
  refine x_callS_i (As := [.int (iI v1), .int (iI 33), .int (iI 126)]) (rest := []) C Z (k_X7_in l g n v1 33 126 r1 hr1) gX7_say_X7_in yk_X7_in ⟨Nat.le_of_ble_eq_true rfl, Nat.le_of_ble_eq_true rfl⟩ ⟨Nat.zero_le _, Nat.zero_le _⟩ hl.1 rfl (Nat.le_of_ble_eq_true rfl) rfl dX7_say_5 (fun H locs Z => ?_)
  have q3 := (ck_some h2).1
  have h4 := (ck_some h2).2
  clear h2
  refine x_if_ne (tgt := 14) C dX7_say_8 (by decide) q3 (fun c5 => ?_) (fun c5 => ?_)
  · have h6 := if_n h4 c5
    clear h4
    refine lv_aload_n C.1 C.2.1 dX7_say_14 rfl (lv_at hl 0 rfl) ?_
    refine x_get C Z 0 rfl rfl i_X7_X7_say (k := 7) (by decide) (List.mem_of_getElem? (i := 1) rfl) rfl dX7_say_15 ?_
    refine x_bipush C dX7_say_18 (by decide) ?_
    have q8 := (ck_some h6).1
    have h9 := (ck_some h6).2
    clear h6
    refine x_icmp_ne (tgt := 26) C dX7_say_20 (by decide) q8 (by decide) (fun c10 => ?_) (fun c10 => ?_)
    · have h11 := if_n h9 c10
      clear h9
      refine lv_aload_n C.1 C.2.1 dX7_say_26 rfl (lv_at hl 0 rfl) ?_
      refine x_get C Z 0 rfl rfl i_X7_X7_say (k := 6) (by decide) (List.mem_of_getElem? (i := 2) rfl) rfl dX7_say_27 ?_
      refine lv_aload_n C.1 C.2.1 dX7_say_30 rfl (lv_at hl 0 rfl) ?_
      refine x_get C Z 0 rfl rfl i_X7_X7_say (k := 7) (by decide) (List.mem_of_getElem? (i := 1) rfl) rfl dX7_say_31 ?_
      refine lv_iload_n C.1 C.2.1 dX7_say_34 rfl (lv_at hl 1 rfl) ?_
      have q13 := (ix_some h11).1
      have h14 := (ix_some h11).2
      clear h11
      refine x_iast (ws2 := wM g aM sMv (up sMp.pad sMp.padMany v1, sMp.padMany) sMt sMs sMc sMr) C Z 5 rfl (by decide) q13 dX7_say_35 rfl (fun H locs Z => ?_)
      refine lv_aload_n C.1 C.2.1 dX7_say_36 rfl (lv_at hl 0 rfl) ?_
      refine lv_dup C.1 C.2.1 dX7_say_37 rfl ?_
      refine x_get C Z 0 rfl rfl i_X7_X7_say (k := 7) (by decide) (List.mem_of_getElem? (i := 1) rfl) rfl dX7_say_38 ?_
      refine x_iconst C dX7_say_41 ?_
      refine x_iadd C dX7_say_42 ?_
      refine x_put (ws2 := wM g aM sMv (up sMp.pad sMp.padMany v1, sMp.padMany + 1) sMt sMs sMc sMr) C Z 0 rfl rfl i_X7_X7_say tyX7_ok nmX7 (k := 7) (by decide) (List.mem_of_getElem? (i := 1) rfl) rfl rfl (Nat.le_of_ble_eq_true rfl) dX7_say_43 rfl (fun H locs Z => ?_)
      refine lv_aload_n C.1 C.2.1 dX7_say_46 rfl (lv_at hl 0 rfl) ?_
      refine x_get C Z 0 rfl rfl i_X7_X7_say (k := 7) (by decide) (List.mem_of_getElem? (i := 1) rfl) rfl dX7_say_47 ?_
      have h15 := Option.some.inj h14
      subst h15
      exact hRet _ _ _ _ Z dX7_say_50
    · have h12 := if_p h9 c10
      clear h9
      refine x_bipush C dX7_say_23 (by decide) ?_
      have h16 := Option.some.inj h12
      subst h16
      exact hRet _ _ _ _ Z dX7_say_25
  · have h7 := if_p h4 c5
    clear h4
    refine x_bipush C dX7_say_11 (by decide) ?_
    have h17 := Option.some.inj h7
    subst h17
    exact hRet _ _ _ _ Z dX7_say_13
abbrev rmX7_wipe : Room := { frames := 0, cells := 0, slots := 0, locals := 0 }
theorem yk_X7_wipe : xY yX7_wipe RX7 cX7_wipe 2 (some .int) wsX7_wipe rmX7_wipe 0 := ⟨⟨_, rfl⟩, by decide +kernel, rfl, rfl⟩
theorem i_X7_X7_wipe : ∀ w ∈ u_ws RX7 TX7 23, w ∈ wsX7_wipe := fun _ h => List.mem_cons_of_mem _ (List.mem_append_right _ h)
set_option maxHeartbeats 4000000 in
set_option maxRecDepth 100000 in
theorem k_X7_wipe (l : Launch) (g : xG) (n : Nat) (aM : Nat → Nat) (sMv : MvS) (sMp : MpS) (sMt : MtS) (sMs : MsS) (sMc : McS) (sMr : MrS) (r : Int × MpS) (hf : p_X7_wipe sMp = some r) : xMi l yX7_wipe wsX7_wipe rmX7_wipe g [.ref (aM 0)] (wM g aM sMv sMp sMt sMs sMc sMr) (wM g aM sMv r.2 sMt sMs sMc sMr) r.1 := by
  refine x_ofW_i (own := RX7) (by decide) rfl rfl (Nat.le_of_ble_eq_true rfl) ?_
  intro p e s m args below meth c ls A QQ C hRet Z hl
  have hl : lv_has ls 2 [(0, .ref (aM 0))] := hl
  unfold p_X7_wipe at hf
  refine lv_aload_n C.1 C.2.1 dX7_wipe_0 rfl (lv_at hl 0 rfl) ?_
  refine x_get C Z 0 rfl rfl i_X7_X7_wipe (k := 7) (by decide) (List.mem_of_getElem? (i := 1) rfl) rfl dX7_wipe_1 ?_
  refine lv_istore_n (lv' := [(1, .int (iI sMp.padMany)), (0, .ref (aM 0))]) C.1 C.2.1 dX7_wipe_4 rfl hl (by decide) rfl (fun ls hl => ?_)
  refine lv_aload_n C.1 C.2.1 dX7_wipe_5 rfl (lv_at hl 1 rfl) ?_
  refine x_iconst C dX7_wipe_6 ?_
  refine x_put (ws2 := wM g aM sMv (sMp.pad, 0) sMt sMs sMc sMr) C Z 0 rfl rfl i_X7_X7_wipe tyX7_ok nmX7 (k := 7) (by decide) (List.mem_of_getElem? (i := 1) rfl) rfl rfl (Nat.le_of_ble_eq_true rfl) dX7_wipe_7 rfl (fun H locs Z => ?_)
  refine lv_iload_n C.1 C.2.1 dX7_wipe_10 rfl (lv_at hl 0 rfl) ?_
  have h1 := Option.some.inj hf
  subst h1
  exact hRet _ _ _ _ Z dX7_wipe_11
abbrev rmX7_pad : Room := { frames := 1, cells := 0, slots := 0, locals := 22 }
theorem yk_X7_pad : xY yX7_pad RX7 cX7_pad 2 (some .int) wsX7_pad rmX7_pad 1 := ⟨⟨_, rfl⟩, by decide +kernel, rfl, rfl⟩
theorem i_X7_X7_pad : ∀ w ∈ u_ws RX7 TX7 23, w ∈ wsX7_pad := fun _ h => List.mem_cons_of_mem _ (List.mem_append_right _ h)
set_option maxHeartbeats 4000000 in
set_option maxRecDepth 100000 in
theorem k_X7_pad (l : Launch) (g : xG) (n : Nat) (aM : Nat → Nat) (sMv : MvS) (sMp : MpS) (sMt : MtS) (sMs : MsS) (sMc : McS) (sMr : MrS) (v1 : Int) (r : Int) (hf : p_X7_pad sMp v1 = some r) : xMi l yX7_pad wsX7_pad rmX7_pad g [.ref (aM 0), .int (iI v1)] (wM g aM sMv sMp sMt sMs sMc sMr) (wM g aM sMv sMp sMt sMs sMc sMr) r := by
  refine x_ofW_i (own := RX7) (by decide) rfl rfl (Nat.le_of_ble_eq_true rfl) ?_
  intro p e s m args below meth c ls A QQ C hRet Z hl
  have hl : lv_has ls 2 [(0, .ref (aM 0)), (1, .int (iI v1))] := hl
  unfold p_X7_pad at hf
  refine lv_iload_n C.1 C.2.1 dX7_pad_0 rfl (lv_at hl 1 rfl) ?_
  refine x_iconst C dX7_pad_1 ?_
  have q1 := (ck_some hf).1
  have h2 := (ck_some hf).2
  clear hf
  refine x_icmp_ne (tgt := 12) C dX7_pad_2 (by decide) q1 (by decide) (fun c3 => ?_) (fun c3 => ?_)
  · have h4 := if_n h2 c3
    clear h2
    refine lv_iload_n C.1 C.2.1 dX7_pad_12 rfl (lv_at hl 1 rfl) ?_
    refine x_iconst C dX7_pad_13 ?_
    refine lv_aload_n C.1 C.2.1 dX7_pad_14 rfl (lv_at hl 0 rfl) ?_
    refine x_get C Z 0 rfl rfl i_X7_X7_pad (k := 7) (by decide) (List.mem_of_getElem? (i := 1) rfl) rfl dX7_pad_15 ?_
    refine x_iconst C dX7_pad_18 ?_
    refine x_isub C dX7_pad_19 ?_
    obtain ⟨r6, hr6, h7⟩ := bd_some h4
    clear h4
    refine x_callS_i (As := [.int (iI v1), .int (iI 0), .int (iI (sMp.padMany - 1))]) (rest := []) C Z (k_X7_in l g n v1 0 (sMp.padMany - 1) r6 hr6) gX7_pad_X7_in yk_X7_in ⟨Nat.le_of_ble_eq_true rfl, Nat.le_of_ble_eq_true rfl⟩ ⟨Nat.zero_le _, Nat.zero_le _⟩ hl.1 rfl (Nat.le_of_ble_eq_true rfl) rfl dX7_pad_20 (fun H locs Z => ?_)
    have q8 := (ck_some h7).1
    have h9 := (ck_some h7).2
    clear h7
    refine x_if_eq (tgt := 35) C dX7_pad_23 (by decide) q8 (fun c10 => ?_) (fun c10 => ?_)
    · have h11 := if_p h9 c10
      clear h9
      refine x_bipush C dX7_pad_35 (by decide) ?_
      have h13 := Option.some.inj h11
      subst h13
      exact hRet _ _ _ _ Z dX7_pad_37
    · have h12 := if_n h9 c10
      clear h9
      refine lv_aload_n C.1 C.2.1 dX7_pad_26 rfl (lv_at hl 0 rfl) ?_
      refine x_get C Z 0 rfl rfl i_X7_X7_pad (k := 6) (by decide) (List.mem_of_getElem? (i := 2) rfl) rfl dX7_pad_27 ?_
      refine lv_iload_n C.1 C.2.1 dX7_pad_30 rfl (lv_at hl 1 rfl) ?_
      have q14 := (ix_some h12).1
      have h15 := (ix_some h12).2
      clear h12
      refine x_iald C Z 5 rfl (by decide) q14 dX7_pad_31 ?_
      refine lv_goto (tgt := 37) C.1 C.2.1 dX7_pad_32 (by decide) ?_
      have h16 := Option.some.inj h15
      subst h16
      exact hRet _ _ _ _ Z dX7_pad_37
  · have h5 := if_p h2 c3
    clear h2
    refine lv_aload_n C.1 C.2.1 dX7_pad_5 rfl (lv_at hl 0 rfl) ?_
    refine x_get C Z 0 rfl rfl i_X7_X7_pad (k := 7) (by decide) (List.mem_of_getElem? (i := 1) rfl) rfl dX7_pad_6 ?_
    refine lv_goto (tgt := 37) C.1 C.2.1 dX7_pad_9 (by decide) ?_
    have h17 := Option.some.inj h5
    subst h17
    exact hRet _ _ _ _ Z dX7_pad_37
abbrev rmX7_fault : Room := { frames := 3, cells := 0, slots := 0, locals := 65 }
theorem yk_X7_fault : xY yX7_fault RX7 cX7_fault 2 (some .int) wsX7_fault rmX7_fault 1 := ⟨⟨_, rfl⟩, by decide +kernel, rfl, rfl⟩
theorem i_X7_X7_fault : ∀ w ∈ u_ws RX7 TX7 23, w ∈ wsX7_fault := fun _ h => List.mem_cons_of_mem _ (List.mem_append_right _ h)
set_option maxHeartbeats 4000000 in
set_option maxRecDepth 100000 in
theorem k_X7_fault (l : Launch) (g : xG) (n : Nat) (aM : Nat → Nat) (sMv : MvS) (sMp : MpS) (sMt : MtS) (sMs : MsS) (sMc : McS) (sMr : MrS) (v1 : Int) (r : Int) (hf : p_X7_fault n sMp v1 = some r) : xMi l yX7_fault wsX7_fault rmX7_fault g [.ref (aM 0), .int (iI v1)] (wM g aM sMv sMp sMt sMs sMc sMr) (wM g aM sMv sMp sMt sMs sMc sMr) r := by
  refine x_ofW_i (own := RX7) (by decide) rfl rfl (Nat.le_of_ble_eq_true rfl) ?_
  intro p e s m args below meth c ls A QQ C hRet Z hl
  have hl : lv_has ls 2 [(0, .ref (aM 0)), (1, .int (iI v1))] := hl
  unfold p_X7_fault at hf
  refine lv_iload_n C.1 C.2.1 dX7_fault_0 rfl (lv_at hl 1 rfl) ?_
  refine x_iconst C dX7_fault_1 ?_
  refine x_iconst C dX7_fault_2 ?_
  obtain ⟨r1, hr1, h2⟩ := bd_some hf
  clear hf
  refine x_callS_i (As := [.int (iI v1), .int (iI 0), .int (iI 1)]) (rest := []) C Z (k_X7_in l g n v1 0 1 r1 hr1) gX7_fault_X7_in yk_X7_in ⟨Nat.le_of_ble_eq_true rfl, Nat.le_of_ble_eq_true rfl⟩ ⟨Nat.zero_le _, Nat.zero_le _⟩ hl.1 rfl (Nat.le_of_ble_eq_true rfl) rfl dX7_fault_3 (fun H locs Z => ?_)
  have q3 := (ck_some h2).1
  have h4 := (ck_some h2).2
  clear h2
  refine x_if_eq (tgt := 17) C dX7_fault_6 (by decide) q3 (fun c5 => ?_) (fun c5 => ?_)
  · have h6 := if_p h4 c5
    clear h4
    refine x_bipush C dX7_fault_17 (by decide) ?_
    have h8 := Option.some.inj h6
    subst h8
    exact hRet _ _ _ _ Z dX7_fault_19
  · have h7 := if_n h4 c5
    clear h4
    refine lv_aload_n C.1 C.2.1 dX7_fault_9 rfl (lv_at hl 0 rfl) ?_
    refine lv_iload_n C.1 C.2.1 dX7_fault_10 rfl (lv_at hl 1 rfl) ?_
    obtain ⟨r9, hr9, h10⟩ := bd_some h7
    clear h7
    refine x_callV_i_id (As := [.int (iI v1)]) (rest := []) (q0 := 0) C Z (k_X7_faultOf l g n aM sMv sMp sMt sMs sMc sMr v1 r9 hr9) gX7_fault_X7_faultOf yk_X7_faultOf ⟨Nat.le_of_ble_eq_true rfl, Nat.le_of_ble_eq_true rfl⟩ rfl rfl ⟨Nat.zero_le _, Nat.zero_le _⟩ hl.1 rfl (Nat.le_of_ble_eq_true rfl) rfl dX7_fault_11 (fun H locs Z => ?_)
    refine lv_goto (tgt := 19) C.1 C.2.1 dX7_fault_14 (by decide) ?_
    have h11 := Option.some.inj h10
    subst h11
    exact hRet _ _ _ _ Z dX7_fault_19
abbrev rmX7_isPattern : Room := { frames := 3, cells := 0, slots := 0, locals := 65 }
theorem yk_X7_isPattern : xY yX7_isPattern RX7 cX7_isPattern 1 (some .boolean) wsX7_isPattern rmX7_isPattern 0 := ⟨⟨_, rfl⟩, by decide +kernel, rfl, rfl⟩
theorem i_X7_X7_isPattern : ∀ w ∈ u_ws RX7 TX7 23, w ∈ wsX7_isPattern := fun _ h => List.mem_cons_of_mem _ (List.mem_append_right _ h)
set_option maxHeartbeats 4000000 in
set_option maxRecDepth 100000 in
theorem k_X7_isPattern (l : Launch) (g : xG) (n : Nat) (aM : Nat → Nat) (sMv : MvS) (sMp : MpS) (sMt : MtS) (sMs : MsS) (sMc : McS) (sMr : MrS) (r : Int) (hf : p_X7_isPattern n sMp = some r) : xMi l yX7_isPattern wsX7_isPattern rmX7_isPattern g [.ref (aM 0)] (wM g aM sMv sMp sMt sMs sMc sMr) (wM g aM sMv sMp sMt sMs sMc sMr) r := by
  refine x_ofW_z (own := RX7) (by decide) rfl rfl (Nat.le_of_ble_eq_true rfl) ?_
  intro p e s m args below meth c ls A QQ C hRet Z hl
  have hl : lv_has ls 1 [(0, .ref (aM 0))] := hl
  unfold p_X7_isPattern at hf
  refine lv_aload_n C.1 C.2.1 dX7_isPattern_0 rfl (lv_at hl 0 rfl) ?_
  refine x_iconst C dX7_isPattern_1 ?_
  obtain ⟨r1, hr1, h2⟩ := bd_some hf
  clear hf
  refine x_callV_i_id (As := [.int (iI 0)]) (rest := []) (q0 := 0) C Z (k_X7_faultOf l g n aM sMv sMp sMt sMs sMc sMr 0 r1 hr1) gX7_isPattern_X7_faultOf yk_X7_faultOf ⟨Nat.le_of_ble_eq_true rfl, Nat.le_of_ble_eq_true rfl⟩ rfl rfl ⟨Nat.zero_le _, Nat.zero_le _⟩ hl.1 rfl (Nat.le_of_ble_eq_true rfl) rfl dX7_isPattern_2 (fun H locs Z => ?_)
  refine x_bipush C dX7_isPattern_5 (by decide) ?_
  have q3 := (ck_some h2).1
  have h4 := (ck_some h2).2
  clear h2
  refine x_icmp_ne (tgt := 14) C dX7_isPattern_7 (by decide) q3 (by decide) (fun c5 => ?_) (fun c5 => ?_)
  · have h6 := if_n h4 c5
    clear h4
    refine x_iconst C dX7_isPattern_14 ?_
    have h8 := Option.some.inj h6
    subst h8
    exact hRet _ _ _ _ (x_bool (Or.inl rfl)) Z dX7_isPattern_15
  · have h7 := if_p h4 c5
    clear h4
    refine x_iconst C dX7_isPattern_10 ?_
    refine lv_goto (tgt := 15) C.1 C.2.1 dX7_isPattern_11 (by decide) ?_
    have h9 := Option.some.inj h7
    subst h9
    exact hRet _ _ _ _ (x_bool (Or.inr rfl)) Z dX7_isPattern_15
abbrev rmX7_stands : Room := { frames := 1, cells := 0, slots := 0, locals := 22 }
theorem yk_X7_stands : xY yX7_stands RX7 cX7_stands 6 (some .boolean) wsX7_stands rmX7_stands 3 := ⟨⟨_, rfl⟩, by decide +kernel, rfl, rfl⟩
theorem i_X7_X7_stands : ∀ w ∈ u_ws RX7 TX7 23, w ∈ wsX7_stands := fun _ h => List.mem_cons_of_mem _ (List.mem_append_right _ h)
set_option maxHeartbeats 4000000 in
set_option maxRecDepth 100000 in
theorem k_X7_stands (l : Launch) (g : xG) (n : Nat) (aM : Nat → Nat) (sMv : MvS) (sMp : MpS) (sMt : MtS) (sMs : MsS) (sMc : McS) (sMr : MrS) (v1 : Int) (v2 : Int) (v3 : Int) (r : Int) (hf : p_X7_stands n sMp sMt v1 v2 v3 = some r) : xMi l yX7_stands wsX7_stands rmX7_stands g [.ref (aM 0), .int (iI v1), .int (iI v2), .int (iI v3)] (wM g aM sMv sMp sMt sMs sMc sMr) (wM g aM sMv sMp sMt sMs sMc sMr) r := by
  refine x_ofW_z (own := RX7) (by decide) rfl rfl (Nat.le_of_ble_eq_true rfl) ?_
  intro p e s m args below meth c ls A QQ C hRet Z hl
  have hl : lv_has ls 6 [(0, .ref (aM 0)), (1, .int (iI v1)), (2, .int (iI v2)), (3, .int (iI v3))] := hl
  unfold p_X7_stands at hf
  have hJ15 : ∀ (v1_15 : Int) (v2_15 : Int) (v3_15 : Int) (t0_15 : Int) (H : Heap) (locs : List Loc) (ls : Array Slot), p_X7_stands_j15 n sMp sMt v1_15 v2_15 v3_15 t0_15 = some r → xSt g A s (wM g aM sMv sMp sMt sMs sMc sMr) H locs → lv_has ls 6 [(0, .ref (aM 0)), (1, .int (iI v1_15)), (2, .int (iI v2_15)), (3, .int (iI v3_15))] → W p l e rmX7_stands s m args below meth c H locs 0 0 QQ (F0 m 15 ls [.int (iI t0_15)]) := by
    intro v1_15 v2_15 v3_15 t0_15 H locs ls hj15 Z hl
    unfold p_X7_stands_j15 at hj15
    refine lv_istore (lv' := [(4, .int (iI t0_15)), (0, .ref (aM 0)), (1, .int (iI v1_15)), (2, .int (iI v2_15)), (3, .int (iI v3_15))]) C.1 C.2.1 dX7_stands_15 hl (by decide) rfl (fun ls hl => ?_)
    refine x_iconst C dX7_stands_17 ?_
    refine lv_istore (lv' := [(5, .int (iI 0)), (4, .int (iI t0_15)), (0, .ref (aM 0)), (1, .int (iI v1_15)), (2, .int (iI v2_15)), (3, .int (iI v3_15))]) C.1 C.2.1 dX7_stands_18 hl (by decide) rfl (fun ls hl => ?_)
    obtain ⟨ex20, hl20, h51⟩ := bd_some hj15
    clear hj15
    have hK20 : ∀ (H : Heap) (locs : List Loc) (ls : Array Slot), xSt g A s (wM g aM sMv sMp sMt sMs sMc sMr) H locs → lv_has ls 6 [(4, .int (iI ex20))] → W p l e rmX7_stands s m args below meth c H locs 0 0 QQ (F0 m 67 ls []) := by
      intro H locs ls Z hl
      have h52 := h51
      clear h51
      refine lv_iload C.1 C.2.1 dX7_stands_67 (lv_at hl 0 rfl) ?_
      have q53 := (bk_some h52).1
      have h54 := (bk_some h52).2
      clear h52
      have h55 := Option.some.inj h54
      subst h55
      exact hRet _ _ _ _ (x_bool q53) Z dX7_stands_69
    have hL20 : ∀ (k20 : Nat) (z20 : Int × Int) (H : Heap) (locs : List Loc) (ls : Array Slot), lp (p_X7_stands_b20 n sMp sMt v1_15 v2_15 v3_15) k20 z20 = some ex20 → xSt g A s (wM g aM sMv sMp sMt sMs sMc sMr) H locs → lv_has ls 6 [(0, .ref (aM 0)), (1, .int (iI v1_15)), (2, .int (iI v2_15)), (3, .int (iI v3_15)), (4, .int (iI z20.1)), (5, .int (iI z20.2))] → W p l e rmX7_stands s m args below meth c H locs 0 0 QQ (F0 m 20 ls []) := by
      intro k20
      induction k20 with
      | zero => intro z20 H locs ls h; exact (lp_0 h).elim
      | succ k20 ih20 =>
        intro z20 H locs ls h Z hl
        obtain ⟨x20, hb20, hx20⟩ := lp_s h
        clear h
        unfold p_X7_stands_b20 at hb20
        refine lv_iload C.1 C.2.1 dX7_stands_20 (lv_at hl 5 rfl) ?_
        refine lv_iload_n C.1 C.2.1 dX7_stands_22 rfl (lv_at hl 3 rfl) ?_
        have q26 := (ck_some hb20).1
        have h27 := (ck_some hb20).2
        clear hb20
        have q28 := (ck_some h27).1
        have h29 := (ck_some h27).2
        clear h27
        refine x_icmp_ge (tgt := 67) C dX7_stands_23 (by decide) q26 q28 (fun c30 => ?_) (fun c30 => ?_)
        · have h31 := if_n h29 c30
          clear h29
          cases h31
          have h33 := lp_R hx20
          subst h33
          exact hK20 _ _ _ Z (lv_sub hl [4] rfl)
        · have h32 := if_p h29 c30
          clear h29
          refine lv_iload C.1 C.2.1 dX7_stands_26 (lv_at hl 4 rfl) ?_
          have q34 := (ck_some h32).1
          have h35 := (ck_some h32).2
          clear h32
          refine x_if_eq (tgt := 67) C dX7_stands_28 (by decide) q34 (fun c36 => ?_) (fun c36 => ?_)
          · have h37 := if_p h35 c36
            clear h35
            cases h37
            have h39 := lp_R hx20
            subst h39
            exact hK20 _ _ _ Z (lv_sub hl [4] rfl)
          · have h38 := if_n h35 c36
            clear h35
            refine lv_aload_n C.1 C.2.1 dX7_stands_31 rfl (lv_at hl 0 rfl) ?_
            refine lv_iload_n C.1 C.2.1 dX7_stands_32 rfl (lv_at hl 1 rfl) ?_
            refine lv_iload C.1 C.2.1 dX7_stands_33 (lv_at hl 5 rfl) ?_
            refine x_iadd C dX7_stands_35 ?_
            obtain ⟨r40, hr40, h41⟩ := bd_some h38
            clear h38
            refine x_callV_i_id (As := [.int (iI (v1_15 + z20.2))]) (rest := []) (q0 := 0) C Z (k_X7_letterAt l g n aM sMv sMp sMt sMs sMc sMr (v1_15 + z20.2) r40 hr40) gX7_stands_X7_letterAt yk_X7_letterAt ⟨Nat.le_of_ble_eq_true rfl, Nat.le_of_ble_eq_true rfl⟩ rfl rfl ⟨Nat.zero_le _, Nat.zero_le _⟩ hl.1 rfl (Nat.le_of_ble_eq_true rfl) rfl dX7_stands_36 (fun H locs Z => ?_)
            refine lv_aload_n C.1 C.2.1 dX7_stands_39 rfl (lv_at hl 0 rfl) ?_
            refine x_get C Z 0 rfl rfl i_X7_X7_stands (k := 6) (by decide) (List.mem_of_getElem? (i := 1) rfl) rfl dX7_stands_40 ?_
            refine lv_iload_n C.1 C.2.1 dX7_stands_43 rfl (lv_at hl 2 rfl) ?_
            refine lv_iload C.1 C.2.1 dX7_stands_44 (lv_at hl 5 rfl) ?_
            refine x_iadd C dX7_stands_46 ?_
            have q42 := (ix_some h41).1
            have h43 := (ix_some h41).2
            clear h41
            refine x_iald C Z 5 rfl (by decide) q42 dX7_stands_47 ?_
            refine x_bipush C dX7_stands_48 (by decide) ?_
            refine x_isub C dX7_stands_50 ?_
            have q44 := (ck_some h43).1
            have h45 := (ck_some h43).2
            clear h43
            have q46 := (ck_some h45).1
            have h47 := (ck_some h45).2
            clear h45
            refine x_icmp_ne (tgt := 58) C dX7_stands_51 (by decide) q44 q46 (fun c48 => ?_) (fun c48 => ?_)
            · have h49 := if_n h47 c48
              clear h47
              refine x_iconst C dX7_stands_58 ?_
              refine lv_istore (lv' := [(4, .int (iI 0)), (0, .ref (aM 0)), (1, .int (iI v1_15)), (2, .int (iI v2_15)), (3, .int (iI v3_15)), (5, .int (iI z20.2))]) C.1 C.2.1 dX7_stands_59 hl (by decide) rfl (fun ls hl => ?_)
              refine x_iinc (lv' := [(5, .int (iI (z20.2 + 1))), (4, .int (iI 0)), (0, .ref (aM 0)), (1, .int (iI v1_15)), (2, .int (iI v2_15)), (3, .int (iI v3_15))]) C dX7_stands_61 hl (k := 5) rfl (by decide) rfl (fun ls hl => ?_)
              refine lv_goto (tgt := 20) C.1 C.2.1 dX7_stands_64 (by decide) ?_
              cases h49
              exact ih20 (0, z20.2 + 1) _ _ _ (lp_L2 hx20) Z (lv_sub hl [2, 3, 4, 5, 1, 0] rfl)
            · have h50 := if_p h47 c48
              clear h47
              refine x_iconst C dX7_stands_54 ?_
              refine lv_goto (tgt := 59) C.1 C.2.1 dX7_stands_55 (by decide) ?_
              refine lv_istore (lv' := [(4, .int (iI 1)), (0, .ref (aM 0)), (1, .int (iI v1_15)), (2, .int (iI v2_15)), (3, .int (iI v3_15)), (5, .int (iI z20.2))]) C.1 C.2.1 dX7_stands_59 hl (by decide) rfl (fun ls hl => ?_)
              refine x_iinc (lv' := [(5, .int (iI (z20.2 + 1))), (4, .int (iI 1)), (0, .ref (aM 0)), (1, .int (iI v1_15)), (2, .int (iI v2_15)), (3, .int (iI v3_15))]) C dX7_stands_61 hl (k := 5) rfl (by decide) rfl (fun ls hl => ?_)
              refine lv_goto (tgt := 20) C.1 C.2.1 dX7_stands_64 (by decide) ?_
              cases h50
              exact ih20 (1, z20.2 + 1) _ _ _ (lp_L2 hx20) Z (lv_sub hl [2, 3, 4, 5, 1, 0] rfl)
    exact hL20 n (t0_15, 0) _ _ _ hl20 Z (lv_sub hl [2, 3, 4, 5, 1, 0] rfl)
  refine lv_aload_n C.1 C.2.1 dX7_stands_0 rfl (lv_at hl 0 rfl) ?_
  refine x_iconst C dX7_stands_1 ?_
  refine lv_iload_n C.1 C.2.1 dX7_stands_2 rfl (lv_at hl 1 rfl) ?_
  obtain ⟨r56, hr56, h57⟩ := bd_some hf
  clear hf
  refine x_callV_i_id (As := [.int (iI 0), .int (iI v1)]) (rest := []) (q0 := 0) C Z (k_X7_rest l g n aM sMv sMp sMt sMs sMc sMr 0 v1 r56 hr56) gX7_stands_X7_rest yk_X7_rest ⟨Nat.le_of_ble_eq_true rfl, Nat.le_of_ble_eq_true rfl⟩ rfl rfl ⟨Nat.zero_le _, Nat.zero_le _⟩ hl.1 rfl (Nat.le_of_ble_eq_true rfl) rfl dX7_stands_3 (fun H locs Z => ?_)
  refine lv_iload_n C.1 C.2.1 dX7_stands_6 rfl (lv_at hl 3 rfl) ?_
  have q58 := (ck_some h57).1
  have h59 := (ck_some h57).2
  clear h57
  have q60 := (ck_some h59).1
  have h61 := (ck_some h59).2
  clear h59
  refine x_icmp_lt (tgt := 14) C dX7_stands_7 (by decide) q58 q60 (fun c62 => ?_) (fun c62 => ?_)
  · have h63 := if_p h61 c62
    clear h61
    refine x_iconst C dX7_stands_14 ?_
    exact hJ15 v1 v2 v3 0 _ _ _ h63 Z (lv_sub hl [0, 1, 2, 3] rfl)
  · have h64 := if_n h61 c62
    clear h61
    refine x_iconst C dX7_stands_10 ?_
    refine lv_goto (tgt := 15) C.1 C.2.1 dX7_stands_11 (by decide) ?_
    exact hJ15 v1 v2 v3 1 _ _ _ h64 Z (lv_sub hl [0, 1, 2, 3] rfl)
abbrev rmX7_isSame : Room := { frames := 2, cells := 0, slots := 0, locals := 48 }
theorem yk_X7_isSame : xY yX7_isSame RX7 cX7_isSame 4 (some .boolean) wsX7_isSame rmX7_isSame 3 := ⟨⟨_, rfl⟩, by decide +kernel, rfl, rfl⟩
theorem i_X7_X7_isSame : ∀ w ∈ u_ws RX7 TX7 23, w ∈ wsX7_isSame := fun _ h => List.mem_cons_of_mem _ (List.mem_append_right _ h)
set_option maxHeartbeats 4000000 in
set_option maxRecDepth 100000 in
theorem k_X7_isSame (l : Launch) (g : xG) (n : Nat) (aM : Nat → Nat) (sMv : MvS) (sMp : MpS) (sMt : MtS) (sMs : MsS) (sMc : McS) (sMr : MrS) (v1 : Int) (v2 : Int) (v3 : Int) (r : Int) (hf : p_X7_isSame n sMt v1 v2 v3 = some r) : xMi l yX7_isSame wsX7_isSame rmX7_isSame g [.ref (aM 0), .int (iI v1), .int (iI v2), .int (iI v3)] (wM g aM sMv sMp sMt sMs sMc sMr) (wM g aM sMv sMp sMt sMs sMc sMr) r := by
  refine x_ofW_z (own := RX7) (by decide) rfl rfl (Nat.le_of_ble_eq_true rfl) ?_
  intro p e s m args below meth c ls A QQ C hRet Z hl
  have hl : lv_has ls 4 [(0, .ref (aM 0)), (1, .int (iI v1)), (2, .int (iI v2)), (3, .int (iI v3))] := hl
  unfold p_X7_isSame at hf
  refine lv_aload_n C.1 C.2.1 dX7_isSame_0 rfl (lv_at hl 0 rfl) ?_
  refine x_iconst C dX7_isSame_1 ?_
  refine lv_iload_n C.1 C.2.1 dX7_isSame_2 rfl (lv_at hl 1 rfl) ?_
  refine x_iconst C dX7_isSame_3 ?_
  refine lv_iload_n C.1 C.2.1 dX7_isSame_4 rfl (lv_at hl 2 rfl) ?_
  obtain ⟨r1, hr1, h2⟩ := bd_some hf
  clear hf
  refine x_callV_i_id (As := [.int (iI 0), .int (iI v1), .int (iI 0), .int (iI v2)]) (rest := []) (q0 := 0) C Z (k_X7_alike l g n aM sMv sMp sMt sMs sMc sMr 0 v1 0 v2 r1 hr1) gX7_isSame_X7_alike yk_X7_alike ⟨Nat.le_of_ble_eq_true rfl, Nat.le_of_ble_eq_true rfl⟩ rfl rfl ⟨Nat.zero_le _, Nat.zero_le _⟩ hl.1 rfl (Nat.le_of_ble_eq_true rfl) rfl dX7_isSame_5 (fun H locs Z => ?_)
  refine lv_iload_n C.1 C.2.1 dX7_isSame_8 rfl (lv_at hl 3 rfl) ?_
  have q3 := (ck_some h2).1
  have h4 := (ck_some h2).2
  clear h2
  have q5 := (ck_some h4).1
  have h6 := (ck_some h4).2
  clear h4
  refine x_icmp_lt (tgt := 16) C dX7_isSame_9 (by decide) q3 q5 (fun c7 => ?_) (fun c7 => ?_)
  · have h8 := if_p h6 c7
    clear h6
    refine x_iconst C dX7_isSame_16 ?_
    have h10 := Option.some.inj h8
    subst h10
    exact hRet _ _ _ _ (x_bool (Or.inl rfl)) Z dX7_isSame_17
  · have h9 := if_n h6 c7
    clear h6
    refine x_iconst C dX7_isSame_12 ?_
    refine lv_goto (tgt := 17) C.1 C.2.1 dX7_isSame_13 (by decide) ?_
    have h11 := Option.some.inj h9
    subst h11
    exact hRet _ _ _ _ (x_bool (Or.inr rfl)) Z dX7_isSame_17
abbrev rmX7_firstPlace : Room := { frames := 3, cells := 0, slots := 0, locals := 71 }
theorem yk_X7_firstPlace : xY yX7_firstPlace RX7 cX7_firstPlace 4 (some .int) wsX7_firstPlace rmX7_firstPlace 2 := ⟨⟨_, rfl⟩, by decide +kernel, rfl, rfl⟩
theorem i_X7_X7_firstPlace : ∀ w ∈ u_ws RX7 TX7 23, w ∈ wsX7_firstPlace := fun _ h => List.mem_cons_of_mem _ (List.mem_append_right _ h)
set_option maxHeartbeats 4000000 in
set_option maxRecDepth 100000 in
theorem k_X7_firstPlace (l : Launch) (g : xG) (n : Nat) (aM : Nat → Nat) (sMv : MvS) (sMp : MpS) (sMt : MtS) (sMs : MsS) (sMc : McS) (sMr : MrS) (v1 : Int) (v2 : Int) (r : Int) (hf : p_X7_firstPlace n sMt v1 v2 = some r) : xMi l yX7_firstPlace wsX7_firstPlace rmX7_firstPlace g [.ref (aM 0), .int (iI v1), .int (iI v2)] (wM g aM sMv sMp sMt sMs sMc sMr) (wM g aM sMv sMp sMt sMs sMc sMr) r := by
  refine x_ofW_i (own := RX7) (by decide) rfl rfl (Nat.le_of_ble_eq_true rfl) ?_
  intro p e s m args below meth c ls A QQ C hRet Z hl
  have hl : lv_has ls 4 [(0, .ref (aM 0)), (1, .int (iI v1)), (2, .int (iI v2))] := hl
  unfold p_X7_firstPlace at hf
  refine x_iconst C dX7_firstPlace_0 ?_
  refine lv_istore_n (lv' := [(3, .int (iI 0)), (0, .ref (aM 0)), (1, .int (iI v1)), (2, .int (iI v2))]) C.1 C.2.1 dX7_firstPlace_1 rfl hl (by decide) rfl (fun ls hl => ?_)
  obtain ⟨ex2, hl2, h17⟩ := bd_some hf
  clear hf
  have hK2 : ∀ (H : Heap) (locs : List Loc) (ls : Array Slot), xSt g A s (wM g aM sMv sMp sMt sMs sMc sMr) H locs → lv_has ls 4 [(3, .int (iI ex2))] → W p l e rmX7_firstPlace s m args below meth c H locs 0 0 QQ (F0 m 18 ls []) := by
    intro H locs ls Z hl
    have h18 := h17
    clear h17
    refine lv_iload_n C.1 C.2.1 dX7_firstPlace_18 rfl (lv_at hl 0 rfl) ?_
    have h19 := Option.some.inj h18
    subst h19
    exact hRet _ _ _ _ Z dX7_firstPlace_19
  have hL2 : ∀ (k2 : Nat) (z2 : Int) (H : Heap) (locs : List Loc) (ls : Array Slot), lp (p_X7_firstPlace_b2 n sMt v1 v2) k2 z2 = some ex2 → xSt g A s (wM g aM sMv sMp sMt sMs sMc sMr) H locs → lv_has ls 4 [(0, .ref (aM 0)), (1, .int (iI v1)), (2, .int (iI v2)), (3, .int (iI z2))] → W p l e rmX7_firstPlace s m args below meth c H locs 0 0 QQ (F0 m 2 ls []) := by
    intro k2
    induction k2 with
    | zero => intro z2 H locs ls h; exact (lp_0 h).elim
    | succ k2 ih2 =>
      intro z2 H locs ls h Z hl
      obtain ⟨x2, hb2, hx2⟩ := lp_s h
      clear h
      unfold p_X7_firstPlace_b2 at hb2
      refine lv_aload_n C.1 C.2.1 dX7_firstPlace_2 rfl (lv_at hl 0 rfl) ?_
      refine lv_iload_n C.1 C.2.1 dX7_firstPlace_3 rfl (lv_at hl 1 rfl) ?_
      refine lv_iload_n C.1 C.2.1 dX7_firstPlace_4 rfl (lv_at hl 3 rfl) ?_
      refine lv_iload_n C.1 C.2.1 dX7_firstPlace_5 rfl (lv_at hl 2 rfl) ?_
      obtain ⟨r9, hr9, h10⟩ := bd_some hb2
      clear hb2
      refine x_callV_i_id (As := [.int (iI v1), .int (iI z2), .int (iI v2)]) (rest := []) (q0 := 0) C Z (k_X7_isSame l g n aM sMv sMp sMt sMs sMc sMr v1 z2 v2 r9 hr9) gX7_firstPlace_X7_isSame yk_X7_isSame ⟨Nat.le_of_ble_eq_true rfl, Nat.le_of_ble_eq_true rfl⟩ rfl rfl ⟨Nat.zero_le _, Nat.zero_le _⟩ hl.1 rfl (Nat.le_of_ble_eq_true rfl) rfl dX7_firstPlace_6 (fun H locs Z => ?_)
      have q11 := (ck_some h10).1
      have h12 := (ck_some h10).2
      clear h10
      refine x_if_ne (tgt := 18) C dX7_firstPlace_9 (by decide) q11 (fun c13 => ?_) (fun c13 => ?_)
      · have h14 := if_n h12 c13
        clear h12
        cases h14
        have h16 := lp_R hx2
        subst h16
        exact hK2 _ _ _ Z (lv_sub hl [3] rfl)
      · have h15 := if_p h12 c13
        clear h12
        refine x_iinc (lv' := [(3, .int (iI (z2 + 1))), (0, .ref (aM 0)), (1, .int (iI v1)), (2, .int (iI v2))]) C dX7_firstPlace_12 hl (k := 3) rfl (by decide) rfl (fun ls hl => ?_)
        refine lv_goto (tgt := 2) C.1 C.2.1 dX7_firstPlace_15 (by decide) ?_
        cases h15
        exact ih2 (z2 + 1) _ _ _ (lp_L2 hx2) Z (lv_sub hl [1, 2, 3, 0] rfl)
  exact hL2 n 0 _ _ _ hl2 Z (lv_sub hl [1, 2, 3, 0] rfl)
abbrev rmX7_endsAt : Room := { frames := 3, cells := 0, slots := 0, locals := 71 }
theorem yk_X7_endsAt : xY yX7_endsAt RX7 cX7_endsAt 5 (some .int) wsX7_endsAt rmX7_endsAt 2 := ⟨⟨_, rfl⟩, by decide +kernel, rfl, rfl⟩
theorem i_X7_X7_endsAt : ∀ w ∈ u_ws RX7 TX7 23, w ∈ wsX7_endsAt := fun _ h => List.mem_cons_of_mem _ (List.mem_append_right _ h)
set_option maxHeartbeats 4000000 in
set_option maxRecDepth 100000 in
theorem k_X7_endsAt (l : Launch) (g : xG) (n : Nat) (aM : Nat → Nat) (sMv : MvS) (sMp : MpS) (sMt : MtS) (sMs : MsS) (sMc : McS) (sMr : MrS) (v1 : Int) (v2 : Int) (r : Int) (hf : p_X7_endsAt n sMt v1 v2 = some r) : xMi l yX7_endsAt wsX7_endsAt rmX7_endsAt g [.ref (aM 0), .int (iI v1), .int (iI v2)] (wM g aM sMv sMp sMt sMs sMc sMr) (wM g aM sMv sMp sMt sMs sMc sMr) r := by
  refine x_ofW_i (own := RX7) (by decide) rfl rfl (Nat.le_of_ble_eq_true rfl) ?_
  intro p e s m args below meth c ls A QQ C hRet Z hl
  have hl : lv_has ls 5 [(0, .ref (aM 0)), (1, .int (iI v1)), (2, .int (iI v2))] := hl
  unfold p_X7_endsAt at hf
  refine x_iconst C dX7_endsAt_0 ?_
  refine lv_istore_n (lv' := [(3, .int (iI 0)), (0, .ref (aM 0)), (1, .int (iI v1)), (2, .int (iI v2))]) C.1 C.2.1 dX7_endsAt_1 rfl hl (by decide) rfl (fun ls hl => ?_)
  refine x_iconst C dX7_endsAt_2 ?_
  refine lv_istore (lv' := [(4, .int (iI 0)), (3, .int (iI 0)), (0, .ref (aM 0)), (1, .int (iI v1)), (2, .int (iI v2))]) C.1 C.2.1 dX7_endsAt_3 hl (by decide) rfl (fun ls hl => ?_)
  obtain ⟨ex5, hl5, h35⟩ := bd_some hf
  clear hf
  have hK5 : ∀ (H : Heap) (locs : List Loc) (ls : Array Slot), xSt g A s (wM g aM sMv sMp sMt sMs sMc sMr) H locs → lv_has ls 5 [(3, .int (iI ex5))] → W p l e rmX7_endsAt s m args below meth c H locs 0 0 QQ (F0 m 41 ls []) := by
    intro H locs ls Z hl
    have h36 := h35
    clear h35
    refine lv_iload_n C.1 C.2.1 dX7_endsAt_41 rfl (lv_at hl 0 rfl) ?_
    have h37 := Option.some.inj h36
    subst h37
    exact hRet _ _ _ _ Z dX7_endsAt_42
  have hL5 : ∀ (k5 : Nat) (z5 : Int × Int) (H : Heap) (locs : List Loc) (ls : Array Slot), lp (p_X7_endsAt_b5 n sMt v1 v2) k5 z5 = some ex5 → xSt g A s (wM g aM sMv sMp sMt sMs sMc sMr) H locs → lv_has ls 5 [(0, .ref (aM 0)), (1, .int (iI v1)), (2, .int (iI v2)), (3, .int (iI z5.1)), (4, .int (iI z5.2))] → W p l e rmX7_endsAt s m args below meth c H locs 0 0 QQ (F0 m 5 ls []) := by
    intro k5
    induction k5 with
    | zero => intro z5 H locs ls h; exact (lp_0 h).elim
    | succ k5 ih5 =>
      intro z5 H locs ls h Z hl
      obtain ⟨x5, hb5, hx5⟩ := lp_s h
      clear h
      unfold p_X7_endsAt_b5 at hb5
      refine lv_iload C.1 C.2.1 dX7_endsAt_5 (lv_at hl 4 rfl) ?_
      refine lv_aload_n C.1 C.2.1 dX7_endsAt_7 rfl (lv_at hl 0 rfl) ?_
      refine x_get C Z 0 rfl rfl i_X7_X7_endsAt (k := 12) (by decide) (List.mem_of_getElem? (i := 1) rfl) rfl dX7_endsAt_8 ?_
      refine x_iconst C dX7_endsAt_11 ?_
      refine x_iald C Z 10 rfl (by decide) (by decide) dX7_endsAt_12 ?_
      have q20 := (ck_some hb5).1
      have h21 := (ck_some hb5).2
      clear hb5
      have q22 := (ck_some h21).1
      have h23 := (ck_some h21).2
      clear h21
      refine x_icmp_ge (tgt := 41) C dX7_endsAt_13 (by decide) q20 q22 (fun c24 => ?_) (fun c24 => ?_)
      · have h25 := if_n h23 c24
        clear h23
        cases h25
        have h27 := lp_R hx5
        subst h27
        exact hK5 _ _ _ Z (lv_sub hl [3] rfl)
      · have h26 := if_p h23 c24
        clear h23
        refine lv_iload_n C.1 C.2.1 dX7_endsAt_16 rfl (lv_at hl 3 rfl) ?_
        refine lv_aload_n C.1 C.2.1 dX7_endsAt_17 rfl (lv_at hl 0 rfl) ?_
        refine lv_iload_n C.1 C.2.1 dX7_endsAt_18 rfl (lv_at hl 1 rfl) ?_
        refine lv_iload C.1 C.2.1 dX7_endsAt_19 (lv_at hl 4 rfl) ?_
        refine lv_iload_n C.1 C.2.1 dX7_endsAt_21 rfl (lv_at hl 2 rfl) ?_
        obtain ⟨r28, hr28, h29⟩ := bd_some h26
        clear h26
        refine x_callV_i_id (As := [.int (iI v1), .int (iI z5.2), .int (iI v2)]) (rest := [.int (iI z5.1)]) (q0 := 0) C Z (k_X7_isSame l g n aM sMv sMp sMt sMs sMc sMr v1 z5.2 v2 r28 hr28) gX7_endsAt_X7_isSame yk_X7_isSame ⟨Nat.le_of_ble_eq_true rfl, Nat.le_of_ble_eq_true rfl⟩ rfl rfl ⟨Nat.zero_le _, Nat.zero_le _⟩ hl.1 rfl (Nat.le_of_ble_eq_true rfl) rfl dX7_endsAt_22 (fun H locs Z => ?_)
        have q30 := (ck_some h29).1
        have h31 := (ck_some h29).2
        clear h29
        refine x_if_eq (tgt := 32) C dX7_endsAt_25 (by decide) q30 (fun c32 => ?_) (fun c32 => ?_)
        · have h33 := if_p h31 c32
          clear h31
          refine x_iconst C dX7_endsAt_32 ?_
          refine x_iadd C dX7_endsAt_33 ?_
          refine lv_istore_n (lv' := [(3, .int (iI (z5.1 + 0))), (0, .ref (aM 0)), (1, .int (iI v1)), (2, .int (iI v2)), (4, .int (iI z5.2))]) C.1 C.2.1 dX7_endsAt_34 rfl hl (by decide) rfl (fun ls hl => ?_)
          refine x_iinc (lv' := [(4, .int (iI (z5.2 + 1))), (3, .int (iI (z5.1 + 0))), (0, .ref (aM 0)), (1, .int (iI v1)), (2, .int (iI v2))]) C dX7_endsAt_35 hl (k := 4) rfl (by decide) rfl (fun ls hl => ?_)
          refine lv_goto (tgt := 5) C.1 C.2.1 dX7_endsAt_38 (by decide) ?_
          cases h33
          exact ih5 (z5.1 + 0, z5.2 + 1) _ _ _ (lp_L2 hx5) Z (lv_sub hl [2, 3, 4, 1, 0] rfl)
        · have h34 := if_n h31 c32
          clear h31
          refine x_iconst C dX7_endsAt_28 ?_
          refine lv_goto (tgt := 33) C.1 C.2.1 dX7_endsAt_29 (by decide) ?_
          refine x_iadd C dX7_endsAt_33 ?_
          refine lv_istore_n (lv' := [(3, .int (iI (z5.1 + 1))), (0, .ref (aM 0)), (1, .int (iI v1)), (2, .int (iI v2)), (4, .int (iI z5.2))]) C.1 C.2.1 dX7_endsAt_34 rfl hl (by decide) rfl (fun ls hl => ?_)
          refine x_iinc (lv' := [(4, .int (iI (z5.2 + 1))), (3, .int (iI (z5.1 + 1))), (0, .ref (aM 0)), (1, .int (iI v1)), (2, .int (iI v2))]) C dX7_endsAt_35 hl (k := 4) rfl (by decide) rfl (fun ls hl => ?_)
          refine lv_goto (tgt := 5) C.1 C.2.1 dX7_endsAt_38 (by decide) ?_
          cases h34
          exact ih5 (z5.1 + 1, z5.2 + 1) _ _ _ (lp_L2 hx5) Z (lv_sub hl [2, 3, 4, 1, 0] rfl)
  exact hL5 n (0, 0) _ _ _ hl5 Z (lv_sub hl [2, 3, 4, 1, 0] rfl)
abbrev rmX7_layClasses : Room := { frames := 4, cells := 0, slots := 0, locals := 95 }
theorem yk_X7_layClasses : xY yX7_layClasses RX7 cX7_layClasses 6 none wsX7_layClasses rmX7_layClasses 0 := ⟨⟨_, rfl⟩, by decide +kernel, rfl, rfl⟩
theorem i_X7_X7_layClasses : ∀ w ∈ u_ws RX7 TX7 23, w ∈ wsX7_layClasses := fun _ h => List.mem_cons_of_mem _ (List.mem_append_right _ h)
set_option maxHeartbeats 4000000 in
set_option maxRecDepth 100000 in
theorem k_X7_layClasses (l : Launch) (g : xG) (n : Nat) (aM : Nat → Nat) (sMv : MvS) (sMp : MpS) (sMt : MtS) (sMs : MsS) (sMc : McS) (sMr : MrS) (r : McS) (hf : p_X7_layClasses n sMt sMc = some r) : xMv l yX7_layClasses wsX7_layClasses rmX7_layClasses g [.ref (aM 0)] (wM g aM sMv sMp sMt sMs sMc sMr) (wM g aM sMv sMp sMt sMs r sMr) := by
  refine x_ofW_v (own := RX7) (by decide) rfl rfl (Nat.le_of_ble_eq_true rfl) ?_
  intro p e s m args below meth c ls A QQ C hRet Z hl
  have hl : lv_has ls 6 [(0, .ref (aM 0))] := hl
  unfold p_X7_layClasses at hf
  refine lv_aload_n C.1 C.2.1 dX7_layClasses_0 rfl (lv_at hl 0 rfl) ?_
  refine x_iconst C dX7_layClasses_1 ?_
  refine x_put (ws2 := wM g aM sMv sMp sMt sMs (sMc.classLast, sMc.classShort, sMc.classLong, sMc.classEnds, 0) sMr) C Z 0 rfl rfl i_X7_X7_layClasses tyX7_ok nmX7 (k := 21) (by decide) (List.mem_of_getElem? (i := 1) rfl) rfl rfl (Nat.le_of_ble_eq_true rfl) dX7_layClasses_2 rfl (fun H locs Z => ?_)
  refine x_iconst C dX7_layClasses_5 ?_
  refine lv_istore_n (lv' := [(1, .int (iI 0)), (0, .ref (aM 0))]) C.1 C.2.1 dX7_layClasses_6 rfl hl (by decide) rfl (fun ls hl => ?_)
  obtain ⟨ex7, hl7, h163⟩ := bd_some hf
  clear hf
  have hK7 : ∀ (H : Heap) (locs : List Loc) (ls : Array Slot), xSt g A s (wM g aM sMv sMp sMt sMs (ex7.1, ex7.2.1, ex7.2.2.1, ex7.2.2.2.1, ex7.2.2.2.2) sMr) H locs → lv_has ls 6 [] → W p l e rmX7_layClasses s m args below meth c H locs 0 0 QQ (F0 m 142 ls []) := by
    intro H locs ls Z hl
    have h164 := h163
    clear h163
    have h165 := Option.some.inj h164
    subst h165
    exact hRet _ _ _ _ Z dX7_layClasses_142
  have hL7 : ∀ (k7 : Nat) (z7 : Int × Row × Row × Row × Row × Int) (H : Heap) (locs : List Loc) (ls : Array Slot), lp (p_X7_layClasses_b7 n sMt) k7 z7 = some ex7 → xSt g A s (wM g aM sMv sMp sMt sMs (z7.2.1, z7.2.2.1, z7.2.2.2.1, z7.2.2.2.2.1, z7.2.2.2.2.2) sMr) H locs → lv_has ls 6 [(0, .ref (aM 0)), (1, .int (iI z7.1))] → W p l e rmX7_layClasses s m args below meth c H locs 0 0 QQ (F0 m 7 ls []) := by
    intro k7
    induction k7 with
    | zero => intro z7 H locs ls h; exact (lp_0 h).elim
    | succ k7 ih7 =>
      intro z7 H locs ls h Z hl
      obtain ⟨x7, hb7, hx7⟩ := lp_s h
      clear h
      unfold p_X7_layClasses_b7 at hb7
      refine lv_iload_n C.1 C.2.1 dX7_layClasses_7 rfl (lv_at hl 1 rfl) ?_
      refine lv_aload_n C.1 C.2.1 dX7_layClasses_8 rfl (lv_at hl 0 rfl) ?_
      refine x_get C Z 0 rfl rfl i_X7_X7_layClasses (k := 12) (by decide) (List.mem_of_getElem? (i := 2) rfl) rfl dX7_layClasses_9 ?_
      refine x_iconst C dX7_layClasses_12 ?_
      refine x_iald C Z 10 rfl (by decide) (by decide) dX7_layClasses_13 ?_
      have q84 := (ck_some hb7).1
      have h85 := (ck_some hb7).2
      clear hb7
      have q86 := (ck_some h85).1
      have h87 := (ck_some h85).2
      clear h85
      refine x_icmp_ge (tgt := 142) C dX7_layClasses_14 (by decide) q84 q86 (fun c88 => ?_) (fun c88 => ?_)
      · have h89 := if_n h87 c88
        clear h87
        cases h89
        have h91 := lp_R hx7
        subst h91
        exact hK7 _ _ _ Z (lv_sub hl [] rfl)
      · have h90 := if_p h87 c88
        clear h87
        refine x_iconst C dX7_layClasses_17 ?_
        refine lv_istore_n (lv' := [(2, .int (iI 0)), (0, .ref (aM 0)), (1, .int (iI z7.1))]) C.1 C.2.1 dX7_layClasses_18 rfl hl (by decide) rfl (fun ls hl => ?_)
        refine x_iconst C dX7_layClasses_19 ?_
        refine lv_istore_n (lv' := [(3, .int (iI 1)), (2, .int (iI 0)), (0, .ref (aM 0)), (1, .int (iI z7.1))]) C.1 C.2.1 dX7_layClasses_20 rfl hl (by decide) rfl (fun ls hl => ?_)
        obtain ⟨ex21, hl21, h161⟩ := bd_some h90
        clear h90
        have hK21 : ∀ (H : Heap) (locs : List Loc) (ls : Array Slot), xSt g A s (wM g aM sMv sMp sMt sMs (ex21.1, ex21.2.1, ex21.2.2.1, ex21.2.2.2.1, ex21.2.2.2.2) sMr) H locs → lv_has ls 6 [(0, .ref (aM 0)), (1, .int (iI z7.1))] → W p l e rmX7_layClasses s m args below meth c H locs 0 0 QQ (F0 m 136 ls []) := by
          intro H locs ls Z hl
          have h162 := h161
          clear h161
          refine x_iinc (lv' := [(1, .int (iI (z7.1 + 1))), (0, .ref (aM 0))]) C dX7_layClasses_136 hl (k := 1) rfl (by decide) rfl (fun ls hl => ?_)
          refine lv_goto (tgt := 7) C.1 C.2.1 dX7_layClasses_139 (by decide) ?_
          cases h162
          exact ih7 (z7.1 + 1, ex21.1, ex21.2.1, ex21.2.2.1, ex21.2.2.2.1, ex21.2.2.2.2) _ _ _ (lp_L2 hx7) Z (lv_sub hl [1, 0] rfl)
        have hL21 : ∀ (k21 : Nat) (z21 : Int × Int × Row × Row × Row × Row × Int) (H : Heap) (locs : List Loc) (ls : Array Slot), lp (p_X7_layClasses_b21 n sMt z7.1) k21 z21 = some ex21 → xSt g A s (wM g aM sMv sMp sMt sMs (z21.2.2.1, z21.2.2.2.1, z21.2.2.2.2.1, z21.2.2.2.2.2.1, z21.2.2.2.2.2.2) sMr) H locs → lv_has ls 6 [(0, .ref (aM 0)), (1, .int (iI z7.1)), (2, .int (iI z21.1)), (3, .int (iI z21.2.1))] → W p l e rmX7_layClasses s m args below meth c H locs 0 0 QQ (F0 m 21 ls []) := by
          intro k21
          induction k21 with
          | zero => intro z21 H locs ls h; exact (lp_0 h).elim
          | succ k21 ih21 =>
            intro z21 H locs ls h Z hl
            obtain ⟨x21, hb21, hx21⟩ := lp_s h
            clear h
            unfold p_X7_layClasses_b21 at hb21
            have hJ118 : ∀ (sMc_classLast_118 : Row) (sMc_classShort_118 : Row) (sMc_classLong_118 : Row) (sMc_classEnds_118 : Row) (sMc_classes_118 : Int) (v2_118 : Int) (v3_118 : Int) (H : Heap) (locs : List Loc) (ls : Array Slot), p_X7_layClasses_j118 n sMc_classLast_118 sMc_classShort_118 sMc_classLong_118 sMc_classEnds_118 sMc_classes_118 v2_118 v3_118 = some x21 → xSt g A s (wM g aM sMv sMp sMt sMs (sMc_classLast_118, sMc_classShort_118, sMc_classLong_118, sMc_classEnds_118, sMc_classes_118) sMr) H locs → lv_has ls 6 [(0, .ref (aM 0)), (1, .int (iI z7.1)), (2, .int (iI v2_118)), (3, .int (iI v3_118))] → W p l e rmX7_layClasses s m args below meth c H locs 0 0 QQ (F0 m 118 ls []) := by
              intro sMc_classLast_118 sMc_classShort_118 sMc_classLong_118 sMc_classEnds_118 sMc_classes_118 v2_118 v3_118 H locs ls hj118 Z hl
              unfold p_X7_layClasses_j118 at hj118
              refine lv_aload_n C.1 C.2.1 dX7_layClasses_118 rfl (lv_at hl 0 rfl) ?_
              refine x_get C Z 0 rfl rfl i_X7_X7_layClasses (k := 19) (by decide) (List.mem_of_getElem? (i := 8) rfl) rfl dX7_layClasses_119 ?_
              refine lv_aload_n C.1 C.2.1 dX7_layClasses_122 rfl (lv_at hl 0 rfl) ?_
              refine x_get C Z 0 rfl rfl i_X7_X7_layClasses (k := 21) (by decide) (List.mem_of_getElem? (i := 1) rfl) rfl dX7_layClasses_123 ?_
              refine x_iconst C dX7_layClasses_126 ?_
              refine x_isub C dX7_layClasses_127 ?_
              refine lv_iload_n C.1 C.2.1 dX7_layClasses_128 rfl (lv_at hl 3 rfl) ?_
              have q127 := (ix_some hj118).1
              have h128 := (ix_some hj118).2
              clear hj118
              refine x_iast (ws2 := wM g aM sMv sMp sMt sMs (sMc_classLast_118, sMc_classShort_118, up sMc_classLong_118 (sMc_classes_118 - 1) v3_118, sMc_classEnds_118, sMc_classes_118) sMr) C Z 17 rfl (by decide) q127 dX7_layClasses_129 rfl (fun H locs Z => ?_)
              refine x_iinc (lv' := [(3, .int (iI (v3_118 + 1))), (0, .ref (aM 0)), (1, .int (iI z7.1)), (2, .int (iI v2_118))]) C dX7_layClasses_130 hl (k := 3) rfl (by decide) rfl (fun ls hl => ?_)
              refine lv_goto (tgt := 21) C.1 C.2.1 dX7_layClasses_133 (by decide) ?_
              cases h128
              exact ih21 (v2_118, v3_118 + 1, sMc_classLast_118, sMc_classShort_118, up sMc_classLong_118 (sMc_classes_118 - 1) v3_118, sMc_classEnds_118, sMc_classes_118) _ _ _ (lp_L2 hx21) Z (lv_sub hl [1, 2, 3, 0] rfl)
            refine lv_iload_n C.1 C.2.1 dX7_layClasses_21 rfl (lv_at hl 3 rfl) ?_
            refine lv_iload_n C.1 C.2.1 dX7_layClasses_22 rfl (lv_at hl 1 rfl) ?_
            refine lv_aload_n C.1 C.2.1 dX7_layClasses_23 rfl (lv_at hl 0 rfl) ?_
            refine x_get C Z 0 rfl rfl i_X7_X7_layClasses (k := 10) (by decide) (List.mem_of_getElem? (i := 3) rfl) rfl dX7_layClasses_24 ?_
            refine lv_aload_n C.1 C.2.1 dX7_layClasses_27 rfl (lv_at hl 0 rfl) ?_
            refine x_get C Z 0 rfl rfl i_X7_X7_layClasses (k := 9) (by decide) (List.mem_of_getElem? (i := 4) rfl) rfl dX7_layClasses_28 ?_
            refine lv_iload_n C.1 C.2.1 dX7_layClasses_31 rfl (lv_at hl 1 rfl) ?_
            have q129 := (ix_some hb21).1
            have h130 := (ix_some hb21).2
            clear hb21
            refine x_iald C Z 7 rfl (by decide) q129 dX7_layClasses_32 ?_
            have q131 := (ix_some h130).1
            have h132 := (ix_some h130).2
            clear h130
            refine x_iald C Z 8 rfl (by decide) q131 dX7_layClasses_33 ?_
            refine x_isub C dX7_layClasses_34 ?_
            refine x_iconst C dX7_layClasses_35 ?_
            refine x_iadd C dX7_layClasses_36 ?_
            have q133 := (ck_some h132).1
            have h134 := (ck_some h132).2
            clear h132
            have q135 := (ck_some h134).1
            have h136 := (ck_some h134).2
            clear h134
            refine x_icmp_gt (tgt := 136) C dX7_layClasses_37 (by decide) q133 q135 (fun c137 => ?_) (fun c137 => ?_)
            · have h138 := if_p h136 c137
              clear h136
              cases h138
              have h140 := lp_R hx21
              subst h140
              exact hK21 _ _ _ Z (lv_sub hl [0, 1] rfl)
            · have h139 := if_n h136 c137
              clear h136
              refine lv_iload_n C.1 C.2.1 dX7_layClasses_40 rfl (lv_at hl 1 rfl) ?_
              refine lv_iload_n C.1 C.2.1 dX7_layClasses_41 rfl (lv_at hl 3 rfl) ?_
              refine x_isub C dX7_layClasses_42 ?_
              refine x_iconst C dX7_layClasses_43 ?_
              refine x_iadd C dX7_layClasses_44 ?_
              refine lv_istore (lv' := [(4, .int (iI ((z7.1 - z21.2.1) + 1))), (0, .ref (aM 0)), (1, .int (iI z7.1)), (2, .int (iI z21.1)), (3, .int (iI z21.2.1))]) C.1 C.2.1 dX7_layClasses_45 hl (by decide) rfl (fun ls hl => ?_)
              refine lv_aload_n C.1 C.2.1 dX7_layClasses_47 rfl (lv_at hl 1 rfl) ?_
              refine lv_iload C.1 C.2.1 dX7_layClasses_48 (lv_at hl 0 rfl) ?_
              refine lv_iload_n C.1 C.2.1 dX7_layClasses_50 rfl (lv_at hl 4 rfl) ?_
              obtain ⟨r141, hr141, h142⟩ := bd_some h139
              clear h139
              refine x_callV_i_id (As := [.int (iI ((z7.1 - z21.2.1) + 1)), .int (iI z21.2.1)]) (rest := []) (q0 := 0) C Z (k_X7_firstPlace l g n aM sMv sMp sMt sMs (z21.2.2.1, z21.2.2.2.1, z21.2.2.2.2.1, z21.2.2.2.2.2.1, z21.2.2.2.2.2.2) sMr ((z7.1 - z21.2.1) + 1) z21.2.1 r141 hr141) gX7_layClasses_X7_firstPlace yk_X7_firstPlace ⟨Nat.le_of_ble_eq_true rfl, Nat.le_of_ble_eq_true rfl⟩ rfl rfl ⟨Nat.zero_le _, Nat.zero_le _⟩ hl.1 rfl (Nat.le_of_ble_eq_true rfl) rfl dX7_layClasses_51 (fun H locs Z => ?_)
              refine lv_iload C.1 C.2.1 dX7_layClasses_54 (lv_at hl 0 rfl) ?_
              have q143 := (ck_some h142).1
              have h144 := (ck_some h142).2
              clear h142
              have q145 := (ck_some h144).1
              have h146 := (ck_some h144).2
              clear h144
              refine x_icmp_ne (tgt := 130) C dX7_layClasses_56 (by decide) q143 q145 (fun c147 => ?_) (fun c147 => ?_)
              · have h148 := if_n h146 c147
                clear h146
                refine x_iinc (lv' := [(3, .int (iI (z21.2.1 + 1))), (4, .int (iI ((z7.1 - z21.2.1) + 1))), (0, .ref (aM 0)), (1, .int (iI z7.1)), (2, .int (iI z21.1))]) C dX7_layClasses_130 hl (k := 4) rfl (by decide) rfl (fun ls hl => ?_)
                refine lv_goto (tgt := 21) C.1 C.2.1 dX7_layClasses_133 (by decide) ?_
                cases h148
                exact ih21 (z21.1, z21.2.1 + 1, z21.2.2.1, z21.2.2.2.1, z21.2.2.2.2.1, z21.2.2.2.2.2.1, z21.2.2.2.2.2.2) _ _ _ (lp_L2 hx21) Z (lv_sub hl [2, 3, 4, 0] rfl)
              · have h149 := if_p h146 c147
                clear h146
                refine lv_aload_n C.1 C.2.1 dX7_layClasses_59 rfl (lv_at hl 1 rfl) ?_
                refine lv_iload C.1 C.2.1 dX7_layClasses_60 (lv_at hl 0 rfl) ?_
                refine lv_iload_n C.1 C.2.1 dX7_layClasses_62 rfl (lv_at hl 4 rfl) ?_
                obtain ⟨r150, hr150, h151⟩ := bd_some h149
                clear h149
                refine x_callV_i_id (As := [.int (iI ((z7.1 - z21.2.1) + 1)), .int (iI z21.2.1)]) (rest := []) (q0 := 0) C Z (k_X7_endsAt l g n aM sMv sMp sMt sMs (z21.2.2.1, z21.2.2.2.1, z21.2.2.2.2.1, z21.2.2.2.2.2.1, z21.2.2.2.2.2.2) sMr ((z7.1 - z21.2.1) + 1) z21.2.1 r150 hr150) gX7_layClasses_X7_endsAt yk_X7_endsAt ⟨Nat.le_of_ble_eq_true rfl, Nat.le_of_ble_eq_true rfl⟩ rfl rfl ⟨Nat.zero_le _, Nat.zero_le _⟩ hl.1 rfl (Nat.le_of_ble_eq_true rfl) rfl dX7_layClasses_63 (fun H locs Z => ?_)
                refine lv_istore (lv' := [(5, .int (iI r150)), (4, .int (iI ((z7.1 - z21.2.1) + 1))), (0, .ref (aM 0)), (1, .int (iI z7.1)), (2, .int (iI z21.1)), (3, .int (iI z21.2.1))]) C.1 C.2.1 dX7_layClasses_66 hl (by decide) rfl (fun ls hl => ?_)
                refine lv_iload C.1 C.2.1 dX7_layClasses_68 (lv_at hl 0 rfl) ?_
                refine lv_iload_n C.1 C.2.1 dX7_layClasses_70 rfl (lv_at hl 4 rfl) ?_
                have q152 := (ck_some h151).1
                have h153 := (ck_some h151).2
                clear h151
                have q154 := (ck_some h153).1
                have h155 := (ck_some h153).2
                clear h153
                refine x_icmp_eq (tgt := 118) C dX7_layClasses_71 (by decide) q152 q154 (fun c156 => ?_) (fun c156 => ?_)
                · have h157 := if_p h155 c156
                  clear h155
                  exact hJ118 z21.2.2.1 z21.2.2.2.1 z21.2.2.2.2.1 z21.2.2.2.2.2.1 z21.2.2.2.2.2.2 z21.1 z21.2.1 _ _ _ h157 Z (lv_sub hl [2, 3, 4, 5] rfl)
                · have h158 := if_n h155 c156
                  clear h155
                  refine lv_aload_n C.1 C.2.1 dX7_layClasses_74 rfl (lv_at hl 2 rfl) ?_
                  refine x_get C Z 0 rfl rfl i_X7_X7_layClasses (k := 17) (by decide) (List.mem_of_getElem? (i := 5) rfl) rfl dX7_layClasses_75 ?_
                  refine lv_aload_n C.1 C.2.1 dX7_layClasses_78 rfl (lv_at hl 2 rfl) ?_
                  refine x_get C Z 0 rfl rfl i_X7_X7_layClasses (k := 21) (by decide) (List.mem_of_getElem? (i := 1) rfl) rfl dX7_layClasses_79 ?_
                  refine lv_iload_n C.1 C.2.1 dX7_layClasses_82 rfl (lv_at hl 3 rfl) ?_
                  have q159 := (ix_some h158).1
                  have h160 := (ix_some h158).2
                  clear h158
                  refine x_iast (ws2 := wM g aM sMv sMp sMt sMs (up z21.2.2.1 z21.2.2.2.2.2.2 z7.1, z21.2.2.2.1, z21.2.2.2.2.1, z21.2.2.2.2.2.1, z21.2.2.2.2.2.2) sMr) C Z 15 rfl (by decide) q159 dX7_layClasses_83 rfl (fun H locs Z => ?_)
                  refine lv_aload_n C.1 C.2.1 dX7_layClasses_84 rfl (lv_at hl 2 rfl) ?_
                  refine x_get C Z 0 rfl rfl i_X7_X7_layClasses (k := 18) (by decide) (List.mem_of_getElem? (i := 6) rfl) rfl dX7_layClasses_85 ?_
                  refine lv_aload_n C.1 C.2.1 dX7_layClasses_88 rfl (lv_at hl 2 rfl) ?_
                  refine x_get C Z 0 rfl rfl i_X7_X7_layClasses (k := 21) (by decide) (List.mem_of_getElem? (i := 1) rfl) rfl dX7_layClasses_89 ?_
                  refine lv_iload_n C.1 C.2.1 dX7_layClasses_92 rfl (lv_at hl 5 rfl) ?_
                  refine x_iast (ws2 := wM g aM sMv sMp sMt sMs (up z21.2.2.1 z21.2.2.2.2.2.2 z7.1, up z21.2.2.2.1 z21.2.2.2.2.2.2 z21.2.1, z21.2.2.2.2.1, z21.2.2.2.2.2.1, z21.2.2.2.2.2.2) sMr) C Z 16 rfl (by decide) q159 dX7_layClasses_93 rfl (fun H locs Z => ?_)
                  refine lv_aload_n C.1 C.2.1 dX7_layClasses_94 rfl (lv_at hl 2 rfl) ?_
                  refine x_get C Z 0 rfl rfl i_X7_X7_layClasses (k := 20) (by decide) (List.mem_of_getElem? (i := 7) rfl) rfl dX7_layClasses_95 ?_
                  refine lv_aload_n C.1 C.2.1 dX7_layClasses_98 rfl (lv_at hl 2 rfl) ?_
                  refine x_get C Z 0 rfl rfl i_X7_X7_layClasses (k := 21) (by decide) (List.mem_of_getElem? (i := 1) rfl) rfl dX7_layClasses_99 ?_
                  refine lv_iload C.1 C.2.1 dX7_layClasses_102 (lv_at hl 0 rfl) ?_
                  refine x_iast (ws2 := wM g aM sMv sMp sMt sMs (up z21.2.2.1 z21.2.2.2.2.2.2 z7.1, up z21.2.2.2.1 z21.2.2.2.2.2.2 z21.2.1, z21.2.2.2.2.1, up z21.2.2.2.2.2.1 z21.2.2.2.2.2.2 r150, z21.2.2.2.2.2.2) sMr) C Z 18 rfl (by decide) q159 dX7_layClasses_104 rfl (fun H locs Z => ?_)
                  refine lv_aload_n C.1 C.2.1 dX7_layClasses_105 rfl (lv_at hl 2 rfl) ?_
                  refine lv_dup C.1 C.2.1 dX7_layClasses_106 rfl ?_
                  refine x_get C Z 0 rfl rfl i_X7_X7_layClasses (k := 21) (by decide) (List.mem_of_getElem? (i := 1) rfl) rfl dX7_layClasses_107 ?_
                  refine x_iconst C dX7_layClasses_110 ?_
                  refine x_iadd C dX7_layClasses_111 ?_
                  refine x_put (ws2 := wM g aM sMv sMp sMt sMs (up z21.2.2.1 z21.2.2.2.2.2.2 z7.1, up z21.2.2.2.1 z21.2.2.2.2.2.2 z21.2.1, z21.2.2.2.2.1, up z21.2.2.2.2.2.1 z21.2.2.2.2.2.2 r150, z21.2.2.2.2.2.2 + 1) sMr) C Z 0 rfl rfl i_X7_X7_layClasses tyX7_ok nmX7 (k := 21) (by decide) (List.mem_of_getElem? (i := 1) rfl) rfl rfl (Nat.le_of_ble_eq_true rfl) dX7_layClasses_112 rfl (fun H locs Z => ?_)
                  refine lv_iload C.1 C.2.1 dX7_layClasses_115 (lv_at hl 0 rfl) ?_
                  refine lv_istore_n (lv' := [(2, .int (iI r150)), (5, .int (iI r150)), (4, .int (iI ((z7.1 - z21.2.1) + 1))), (0, .ref (aM 0)), (1, .int (iI z7.1)), (3, .int (iI z21.2.1))]) C.1 C.2.1 dX7_layClasses_117 rfl hl (by decide) rfl (fun ls hl => ?_)
                  exact hJ118 (up z21.2.2.1 z21.2.2.2.2.2.2 z7.1) (up z21.2.2.2.1 z21.2.2.2.2.2.2 z21.2.1) z21.2.2.2.2.1 (up z21.2.2.2.2.2.1 z21.2.2.2.2.2.2 r150) (z21.2.2.2.2.2.2 + 1) r150 z21.2.1 _ _ _ h160 Z (lv_sub hl [3, 4, 0, 5] rfl)
        exact hL21 n (0, 1, z7.2.1, z7.2.2.1, z7.2.2.2.1, z7.2.2.2.2.1, z7.2.2.2.2.2) _ _ _ hl21 Z (lv_sub hl [2, 3, 1, 0] rfl)
  exact hL7 n (0, sMc.classLast, sMc.classShort, sMc.classLong, sMc.classEnds, 0) _ _ _ hl7 Z (lv_sub hl [1, 0] rfl)
