section LWC
variable {p : Program} {l : Launch} {e : Env} {s : State} {m : MethodId} {args : Array Value} {below : List Frame} {meth : Method} {c : Code} {H : Heap} {locs : List Loc} {Q : State → Prop} {ls : Array Slot} {g : xG} {A : Nat → Prop} {ad : Nat → Nat → Nat} {b L : Nat} {xs : Nat → Int32} {i : Int}
set_option maxHeartbeats 4000000 in
set_option maxRecDepth 100000 in
theorem lc_spell (hi : 0 ≤ i ∧ i + 3 ≤ (L : Int)) (C : xLw p s m args c g A b L xs) (I : xI g A s ad H locs) (hl : lv_has ls 4 [(3, .int (iI i)), (2, .ref (ad 13 0)), (1, .ref (ad 0 0)), (0, .ref b)]) (kk : ∀ (H1 : Heap) (locs1 : List Loc), xI g A s ad H1 locs1 → W p l e room_1 s m args below meth c H1 locs1 131 10637 Q (F0 m 834 ls [])) : W p l e room_1 s m args below meth c H locs 131 10637 Q (F0 m 663 ls []) := by
  obtain ⟨sF, sH, sP, sT, sC, sK, sB, sQ, sU, sV, sS, sR, v, w, t, u, d, z, hR, Z⟩ := I
  have hR0 := hR
  obtain ⟨h1, h2, h3, h4, h5, h6, h7⟩ := hR
  obtain ⟨r, r7, e1, e2, q⟩ : Sim (p_X6_spell 1000 sF sH sP sT sC sK (sv xs (i + 1))) (p_X7_spell 1000 v w t d (sv xs (i + 1))) _ := s_spell (Nat.le_refl 1000) h1 h2 h3 h4 (sv_in xs (i + 1))
  refine lv_aload_n C.1.1 C.1.2.1 dL_law_663 rfl (lv_at hl 2 rfl) ?_
  refine lv_aload_n C.1.1 C.1.2.1 dL_law_664 rfl (lv_at hl 3 rfl) ?_
  refine lv_iload_n C.1.1 C.1.2.1 dL_law_665 rfl (lv_at hl 0 rfl) ?_
  refine x_iconst C.1 dL_law_666 ?_
  refine x_iadd C.1 dL_law_667 ?_
  refine x_sld C Z (x := i + 1) ⟨by omega, by omega⟩ dL_law_668 ?_
  refine x_callA (As := [.int (iI (sv xs (i + 1)))]) (rest := []) (q0 := 0) (pl := wM g (ad 13) v w t u d z) C.1 Z (k_X6_spell l g 1000 (ad 0) (ad 1) (ad 2) (ad 3) (ad 4) (ad 5) (ad 6) (ad 7) (ad 8) (ad 9) (ad 10) (ad 11) (ad 12) sF sH sP sT sC sK sB sQ sU sV sS sR (sv xs (i + 1)) r e1) gL_law_X6_spell yk_X6_spell ⟨Nat.le_of_ble_eq_true rfl, Nat.le_of_ble_eq_true rfl⟩ rfl rfl ⟨Nat.le_of_ble_eq_true rfl, Nat.le_of_ble_eq_true rfl⟩ hl.1 rfl (Nat.le_of_ble_eq_true rfl) rfl dL_law_669 (fun H locs Z => ?_)
  have Z := Z.perm List.perm_append_comm
  refine lv_aload_n C.1.1 C.1.2.1 dL_law_672 rfl (lv_at hl 1 rfl) ?_
  refine lv_aload_n C.1.1 C.1.2.1 dL_law_673 rfl (lv_at hl 3 rfl) ?_
  refine lv_iload_n C.1.1 C.1.2.1 dL_law_674 rfl (lv_at hl 0 rfl) ?_
  refine x_iconst C.1 dL_law_675 ?_
  refine x_iadd C.1 dL_law_676 ?_
  refine x_sld C Z (x := i + 1) ⟨by omega, by omega⟩ dL_law_677 ?_
  refine x_callA (As := [.int (iI (sv xs (i + 1)))]) (rest := [.int (iI r.1)]) (q0 := 0) C.1 Z (k_X7_spell l g 1000 (ad 13) v w t u d z (sv xs (i + 1)) r7 e2) gL_law_X7_spell yk_X7_spell ⟨Nat.le_of_ble_eq_true rfl, Nat.le_of_ble_eq_true rfl⟩ rfl rfl ⟨Nat.le_of_ble_eq_true rfl, Nat.le_of_ble_eq_true rfl⟩ hl.1 rfl (Nat.le_of_ble_eq_true rfl) rfl dL_law_678 (fun H locs Z => ?_)
  have Z := Z.perm List.perm_append_comm
  refine lv_icmp_eq (tgt := 834) C.1.1 C.1.2.1 dL_law_681 (by decide) (fun _ => kk H locs ?_) (fun hne => absurd (congrArg iI q.1) hne)
  exact ⟨sF, sH, r.2.1, r.2.2.1, r.2.2.2.1, r.2.2.2.2, sB, sQ, sU, sV, sS, sR, v, r7.2.1, r7.2.2.1, u, r7.2.2.2, z, ⟨h1, q.2.1, q.2.2.1, q.2.2.2, h5, h6, h7⟩, Z⟩
set_option maxHeartbeats 4000000 in
set_option maxRecDepth 100000 in
theorem lc_step (hi : 0 ≤ i ∧ i + 3 ≤ (L : Int)) (C : xLw p s m args c g A b L xs) (I : xI g A s ad H locs) (hl : lv_has ls 4 [(3, .int (iI i)), (2, .ref (ad 13 0)), (1, .ref (ad 0 0)), (0, .ref b)]) (kk : ∀ (H1 : Heap) (locs1 : List Loc), xI g A s ad H1 locs1 → W p l e room_1 s m args below meth c H1 locs1 131 10637 Q (F0 m 834 ls [])) : W p l e room_1 s m args below meth c H locs 131 10637 Q (F0 m 686 ls []) := by
  obtain ⟨sF, sH, sP, sT, sC, sK, sB, sQ, sU, sV, sS, sR, v, w, t, u, d, z, hR, Z⟩ := I
  have hR0 := hR
  obtain ⟨h1, h2, h3, h4, h5, h6, h7⟩ := hR
  obtain ⟨r, r7, e1, e2, q⟩ : Sim (p_X6_step 1000 sF sH sT sC sK (sv xs (i + 1)) (sv xs (i + 2))) (p_X7_step 1000 v t d (sv xs (i + 1)) (sv xs (i + 2))) _ := s_step (Nat.le_refl 1000) h1 h3 h4 (sv_in xs (i + 1)) (sv_in xs (i + 2))
  refine lv_aload_n C.1.1 C.1.2.1 dL_law_686 rfl (lv_at hl 2 rfl) ?_
  refine lv_aload_n C.1.1 C.1.2.1 dL_law_687 rfl (lv_at hl 3 rfl) ?_
  refine lv_iload_n C.1.1 C.1.2.1 dL_law_688 rfl (lv_at hl 0 rfl) ?_
  refine x_iconst C.1 dL_law_689 ?_
  refine x_iadd C.1 dL_law_690 ?_
  refine x_sld C Z (x := i + 1) ⟨by omega, by omega⟩ dL_law_691 ?_
  refine lv_aload_n C.1.1 C.1.2.1 dL_law_692 rfl (lv_at hl 3 rfl) ?_
  refine lv_iload_n C.1.1 C.1.2.1 dL_law_693 rfl (lv_at hl 0 rfl) ?_
  refine x_iconst C.1 dL_law_694 ?_
  refine x_iadd C.1 dL_law_695 ?_
  refine x_sld C Z (x := i + 2) ⟨by omega, by omega⟩ dL_law_696 ?_
  refine x_callA (As := [.int (iI (sv xs (i + 1))), .int (iI (sv xs (i + 2)))]) (rest := []) (q0 := 0) (pl := wM g (ad 13) v w t u d z) C.1 Z (k_X6_step l g 1000 (ad 0) (ad 1) (ad 2) (ad 3) (ad 4) (ad 5) (ad 6) (ad 7) (ad 8) (ad 9) (ad 10) (ad 11) (ad 12) sF sH sP sT sC sK sB sQ sU sV sS sR (sv xs (i + 1)) (sv xs (i + 2)) r e1) gL_law_X6_step yk_X6_step ⟨Nat.le_of_ble_eq_true rfl, Nat.le_of_ble_eq_true rfl⟩ rfl rfl ⟨Nat.le_of_ble_eq_true rfl, Nat.le_of_ble_eq_true rfl⟩ hl.1 rfl (Nat.le_of_ble_eq_true rfl) rfl dL_law_697 (fun H locs Z => ?_)
  have Z := Z.perm List.perm_append_comm
  refine lv_aload_n C.1.1 C.1.2.1 dL_law_700 rfl (lv_at hl 1 rfl) ?_
  refine lv_aload_n C.1.1 C.1.2.1 dL_law_701 rfl (lv_at hl 3 rfl) ?_
  refine lv_iload_n C.1.1 C.1.2.1 dL_law_702 rfl (lv_at hl 0 rfl) ?_
  refine x_iconst C.1 dL_law_703 ?_
  refine x_iadd C.1 dL_law_704 ?_
  refine x_sld C Z (x := i + 1) ⟨by omega, by omega⟩ dL_law_705 ?_
  refine lv_aload_n C.1.1 C.1.2.1 dL_law_706 rfl (lv_at hl 3 rfl) ?_
  refine lv_iload_n C.1.1 C.1.2.1 dL_law_707 rfl (lv_at hl 0 rfl) ?_
  refine x_iconst C.1 dL_law_708 ?_
  refine x_iadd C.1 dL_law_709 ?_
  refine x_sld C Z (x := i + 2) ⟨by omega, by omega⟩ dL_law_710 ?_
  refine x_callA (As := [.int (iI (sv xs (i + 1))), .int (iI (sv xs (i + 2)))]) (rest := [.int (iI r.1)]) (q0 := 0) C.1 Z (k_X7_step l g 1000 (ad 13) v w t u d z (sv xs (i + 1)) (sv xs (i + 2)) r7 e2) gL_law_X7_step yk_X7_step ⟨Nat.le_of_ble_eq_true rfl, Nat.le_of_ble_eq_true rfl⟩ rfl rfl ⟨Nat.le_of_ble_eq_true rfl, Nat.le_of_ble_eq_true rfl⟩ hl.1 rfl (Nat.le_of_ble_eq_true rfl) rfl dL_law_711 (fun H locs Z => ?_)
  have Z := Z.perm List.perm_append_comm
  refine lv_icmp_eq (tgt := 834) C.1.1 C.1.2.1 dL_law_714 (by decide) (fun _ => kk H locs ?_) (fun hne => absurd (congrArg iI q.1) hne)
  exact ⟨sF, sH, sP, r.2.1, r.2.2.1, r.2.2.2, sB, sQ, sU, sV, sS, sR, v, w, r7.2.1, u, r7.2.2, z, ⟨h1, h2, q.2.1, q.2.2, h5, h6, h7⟩, Z⟩
set_option maxHeartbeats 4000000 in
set_option maxRecDepth 100000 in
theorem lc_common (hi : 0 ≤ i ∧ i + 3 ≤ (L : Int)) (C : xLw p s m args c g A b L xs) (I : xI g A s ad H locs) (hl : lv_has ls 4 [(3, .int (iI i)), (2, .ref (ad 13 0)), (1, .ref (ad 0 0)), (0, .ref b)]) (kk : ∀ (H1 : Heap) (locs1 : List Loc), xI g A s ad H1 locs1 → W p l e room_1 s m args below meth c H1 locs1 131 10637 Q (F0 m 834 ls [])) : W p l e room_1 s m args below meth c H locs 131 10637 Q (F0 m 719 ls []) := by
  obtain ⟨sF, sH, sP, sT, sC, sK, sB, sQ, sU, sV, sS, sR, v, w, t, u, d, z, hR, Z⟩ := I
  have hR0 := hR
  obtain ⟨h1, h2, h3, h4, h5, h6, h7⟩ := hR
  obtain ⟨r, r7, e1, e2, q⟩ : Sim (p_X6_common 1000 sF sH sP sT sC sK (sv xs (i + 1)) (sv xs (i + 2))) (p_X7_common 1000 v w t u (sv xs (i + 1)) (sv xs (i + 2))) _ := s_common (Nat.le_refl 1000) h1 h2 h3 h4 (sv_in xs (i + 1)) (sv_in xs (i + 2))
  refine lv_aload_n C.1.1 C.1.2.1 dL_law_719 rfl (lv_at hl 2 rfl) ?_
  refine lv_aload_n C.1.1 C.1.2.1 dL_law_720 rfl (lv_at hl 3 rfl) ?_
  refine lv_iload_n C.1.1 C.1.2.1 dL_law_721 rfl (lv_at hl 0 rfl) ?_
  refine x_iconst C.1 dL_law_722 ?_
  refine x_iadd C.1 dL_law_723 ?_
  refine x_sld C Z (x := i + 1) ⟨by omega, by omega⟩ dL_law_724 ?_
  refine lv_aload_n C.1.1 C.1.2.1 dL_law_725 rfl (lv_at hl 3 rfl) ?_
  refine lv_iload_n C.1.1 C.1.2.1 dL_law_726 rfl (lv_at hl 0 rfl) ?_
  refine x_iconst C.1 dL_law_727 ?_
  refine x_iadd C.1 dL_law_728 ?_
  refine x_sld C Z (x := i + 2) ⟨by omega, by omega⟩ dL_law_729 ?_
  refine x_callA (As := [.int (iI (sv xs (i + 1))), .int (iI (sv xs (i + 2)))]) (rest := []) (q0 := 0) (pl := wM g (ad 13) v w t u d z) C.1 Z (k_X6_common l g 1000 (ad 0) (ad 1) (ad 2) (ad 3) (ad 4) (ad 5) (ad 6) (ad 7) (ad 8) (ad 9) (ad 10) (ad 11) (ad 12) sF sH sP sT sC sK sB sQ sU sV sS sR (sv xs (i + 1)) (sv xs (i + 2)) r e1) gL_law_X6_common yk_X6_common ⟨Nat.le_of_ble_eq_true rfl, Nat.le_of_ble_eq_true rfl⟩ rfl rfl ⟨Nat.le_of_ble_eq_true rfl, Nat.le_of_ble_eq_true rfl⟩ hl.1 rfl (Nat.le_of_ble_eq_true rfl) rfl dL_law_730 (fun H locs Z => ?_)
  have Z := Z.perm List.perm_append_comm
  refine lv_aload_n C.1.1 C.1.2.1 dL_law_733 rfl (lv_at hl 1 rfl) ?_
  refine lv_aload_n C.1.1 C.1.2.1 dL_law_734 rfl (lv_at hl 3 rfl) ?_
  refine lv_iload_n C.1.1 C.1.2.1 dL_law_735 rfl (lv_at hl 0 rfl) ?_
  refine x_iconst C.1 dL_law_736 ?_
  refine x_iadd C.1 dL_law_737 ?_
  refine x_sld C Z (x := i + 1) ⟨by omega, by omega⟩ dL_law_738 ?_
  refine lv_aload_n C.1.1 C.1.2.1 dL_law_739 rfl (lv_at hl 3 rfl) ?_
  refine lv_iload_n C.1.1 C.1.2.1 dL_law_740 rfl (lv_at hl 0 rfl) ?_
  refine x_iconst C.1 dL_law_741 ?_
  refine x_iadd C.1 dL_law_742 ?_
  refine x_sld C Z (x := i + 2) ⟨by omega, by omega⟩ dL_law_743 ?_
  refine x_callA (As := [.int (iI (sv xs (i + 1))), .int (iI (sv xs (i + 2)))]) (rest := [.int (iI r.1)]) (q0 := 0) C.1 Z (k_X7_common l g 1000 (ad 13) v w t u d z (sv xs (i + 1)) (sv xs (i + 2)) r7 e2) gL_law_X7_common yk_X7_common ⟨Nat.le_of_ble_eq_true rfl, Nat.le_of_ble_eq_true rfl⟩ rfl rfl ⟨Nat.le_of_ble_eq_true rfl, Nat.le_of_ble_eq_true rfl⟩ hl.1 rfl (Nat.le_of_ble_eq_true rfl) rfl dL_law_744 (fun H locs Z => ?_)
  have Z := Z.perm List.perm_append_comm
  refine lv_icmp_eq (tgt := 834) C.1.1 C.1.2.1 dL_law_747 (by decide) (fun _ => kk H locs ?_) (fun hne => absurd (congrArg iI q.1) hne)
  exact ⟨sF, sH, r.2.1, r.2.2.1, r.2.2.2.1, r.2.2.2.2, sB, sQ, sU, sV, sS, sR, v, r7.2.1, r7.2.2.1, r7.2.2.2, d, z, ⟨h1, q.2.1, q.2.2.1, q.2.2.2, h5, h6, h7⟩, Z⟩
set_option maxHeartbeats 4000000 in
set_option maxRecDepth 100000 in
theorem lc_unique (hi : 0 ≤ i ∧ i + 3 ≤ (L : Int)) (C : xLw p s m args c g A b L xs) (I : xI g A s ad H locs) (hl : lv_has ls 4 [(3, .int (iI i)), (2, .ref (ad 13 0)), (1, .ref (ad 0 0)), (0, .ref b)]) (kk : ∀ (H1 : Heap) (locs1 : List Loc), xI g A s ad H1 locs1 → W p l e room_1 s m args below meth c H1 locs1 131 10637 Q (F0 m 834 ls [])) : W p l e room_1 s m args below meth c H locs 131 10637 Q (F0 m 752 ls []) := by
  obtain ⟨sF, sH, sP, sT, sC, sK, sB, sQ, sU, sV, sS, sR, v, w, t, u, d, z, hR, Z⟩ := I
  have hR0 := hR
  obtain ⟨h1, h2, h3, h4, h5, h6, h7⟩ := hR
  obtain ⟨r, r7, e1, e2, q⟩ : Sim (p_X6_unique 1000 sF sH sP sT sC sK (sv xs (i + 1))) (p_X7_unique 1000 v w t u (sv xs (i + 1))) _ := s_unique (Nat.le_refl 1000) h1 h2 h3 h4 (sv_in xs (i + 1))
  refine lv_aload_n C.1.1 C.1.2.1 dL_law_752 rfl (lv_at hl 2 rfl) ?_
  refine lv_aload_n C.1.1 C.1.2.1 dL_law_753 rfl (lv_at hl 3 rfl) ?_
  refine lv_iload_n C.1.1 C.1.2.1 dL_law_754 rfl (lv_at hl 0 rfl) ?_
  refine x_iconst C.1 dL_law_755 ?_
  refine x_iadd C.1 dL_law_756 ?_
  refine x_sld C Z (x := i + 1) ⟨by omega, by omega⟩ dL_law_757 ?_
  refine x_callA (As := [.int (iI (sv xs (i + 1)))]) (rest := []) (q0 := 0) (pl := wM g (ad 13) v w t u d z) C.1 Z (k_X6_unique l g 1000 (ad 0) (ad 1) (ad 2) (ad 3) (ad 4) (ad 5) (ad 6) (ad 7) (ad 8) (ad 9) (ad 10) (ad 11) (ad 12) sF sH sP sT sC sK sB sQ sU sV sS sR (sv xs (i + 1)) r e1) gL_law_X6_unique yk_X6_unique ⟨Nat.le_of_ble_eq_true rfl, Nat.le_of_ble_eq_true rfl⟩ rfl rfl ⟨Nat.le_of_ble_eq_true rfl, Nat.le_of_ble_eq_true rfl⟩ hl.1 rfl (Nat.le_of_ble_eq_true rfl) rfl dL_law_758 (fun H locs Z => ?_)
  have Z := Z.perm List.perm_append_comm
  refine lv_aload_n C.1.1 C.1.2.1 dL_law_761 rfl (lv_at hl 1 rfl) ?_
  refine lv_aload_n C.1.1 C.1.2.1 dL_law_762 rfl (lv_at hl 3 rfl) ?_
  refine lv_iload_n C.1.1 C.1.2.1 dL_law_763 rfl (lv_at hl 0 rfl) ?_
  refine x_iconst C.1 dL_law_764 ?_
  refine x_iadd C.1 dL_law_765 ?_
  refine x_sld C Z (x := i + 1) ⟨by omega, by omega⟩ dL_law_766 ?_
  refine x_callA (As := [.int (iI (sv xs (i + 1)))]) (rest := [.int (iI r.1)]) (q0 := 0) C.1 Z (k_X7_unique l g 1000 (ad 13) v w t u d z (sv xs (i + 1)) r7 e2) gL_law_X7_unique yk_X7_unique ⟨Nat.le_of_ble_eq_true rfl, Nat.le_of_ble_eq_true rfl⟩ rfl rfl ⟨Nat.le_of_ble_eq_true rfl, Nat.le_of_ble_eq_true rfl⟩ hl.1 rfl (Nat.le_of_ble_eq_true rfl) rfl dL_law_767 (fun H locs Z => ?_)
  have Z := Z.perm List.perm_append_comm
  refine lv_icmp_eq (tgt := 834) C.1.1 C.1.2.1 dL_law_770 (by decide) (fun _ => kk H locs ?_) (fun hne => absurd (congrArg iI q.1) hne)
  exact ⟨sF, sH, r.2.1, r.2.2.1, r.2.2.2.1, r.2.2.2.2, sB, sQ, sU, sV, sS, sR, v, r7.2.1, r7.2.2.1, r7.2.2.2, d, z, ⟨h1, q.2.1, q.2.2.1, q.2.2.2, h5, h6, h7⟩, Z⟩
set_option maxHeartbeats 4000000 in
set_option maxRecDepth 100000 in
theorem lc_absent (hi : 0 ≤ i ∧ i + 3 ≤ (L : Int)) (C : xLw p s m args c g A b L xs) (I : xI g A s ad H locs) (hl : lv_has ls 4 [(3, .int (iI i)), (2, .ref (ad 13 0)), (1, .ref (ad 0 0)), (0, .ref b)]) (kk : ∀ (H1 : Heap) (locs1 : List Loc), xI g A s ad H1 locs1 → W p l e room_1 s m args below meth c H1 locs1 131 10637 Q (F0 m 834 ls [])) : W p l e room_1 s m args below meth c H locs 131 10637 Q (F0 m 775 ls []) := by
  obtain ⟨sF, sH, sP, sT, sC, sK, sB, sQ, sU, sV, sS, sR, v, w, t, u, d, z, hR, Z⟩ := I
  have hR0 := hR
  obtain ⟨h1, h2, h3, h4, h5, h6, h7⟩ := hR
  obtain ⟨r, r7, e1, e2, q⟩ : Sim (p_X6_absent 1000 sF sH sP sT sQ (sv xs (i + 1))) (p_X7_absent 1000 v w t z (sv xs (i + 1))) _ := s_absent (Nat.le_refl 1000) h1 h2 h3 (sv_in xs (i + 1))
  refine lv_aload_n C.1.1 C.1.2.1 dL_law_775 rfl (lv_at hl 2 rfl) ?_
  refine lv_aload_n C.1.1 C.1.2.1 dL_law_776 rfl (lv_at hl 3 rfl) ?_
  refine lv_iload_n C.1.1 C.1.2.1 dL_law_777 rfl (lv_at hl 0 rfl) ?_
  refine x_iconst C.1 dL_law_778 ?_
  refine x_iadd C.1 dL_law_779 ?_
  refine x_sld C Z (x := i + 1) ⟨by omega, by omega⟩ dL_law_780 ?_
  refine x_callA (As := [.int (iI (sv xs (i + 1)))]) (rest := []) (q0 := 0) (pl := wM g (ad 13) v w t u d z) C.1 Z (k_X6_absent l g 1000 (ad 0) (ad 1) (ad 2) (ad 3) (ad 4) (ad 5) (ad 6) (ad 7) (ad 8) (ad 9) (ad 10) (ad 11) (ad 12) sF sH sP sT sC sK sB sQ sU sV sS sR (sv xs (i + 1)) r e1) gL_law_X6_absent yk_X6_absent ⟨Nat.le_of_ble_eq_true rfl, Nat.le_of_ble_eq_true rfl⟩ rfl rfl ⟨Nat.le_of_ble_eq_true rfl, Nat.le_of_ble_eq_true rfl⟩ hl.1 rfl (Nat.le_of_ble_eq_true rfl) rfl dL_law_781 (fun H locs Z => ?_)
  have Z := Z.perm List.perm_append_comm
  refine lv_aload_n C.1.1 C.1.2.1 dL_law_784 rfl (lv_at hl 1 rfl) ?_
  refine lv_aload_n C.1.1 C.1.2.1 dL_law_785 rfl (lv_at hl 3 rfl) ?_
  refine lv_iload_n C.1.1 C.1.2.1 dL_law_786 rfl (lv_at hl 0 rfl) ?_
  refine x_iconst C.1 dL_law_787 ?_
  refine x_iadd C.1 dL_law_788 ?_
  refine x_sld C Z (x := i + 1) ⟨by omega, by omega⟩ dL_law_789 ?_
  refine x_callA (As := [.int (iI (sv xs (i + 1)))]) (rest := [.int (iI r.1)]) (q0 := 0) C.1 Z (k_X7_absent l g 1000 (ad 13) v w t u d z (sv xs (i + 1)) r7 e2) gL_law_X7_absent yk_X7_absent ⟨Nat.le_of_ble_eq_true rfl, Nat.le_of_ble_eq_true rfl⟩ rfl rfl ⟨Nat.le_of_ble_eq_true rfl, Nat.le_of_ble_eq_true rfl⟩ hl.1 rfl (Nat.le_of_ble_eq_true rfl) rfl dL_law_790 (fun H locs Z => ?_)
  have Z := Z.perm List.perm_append_comm
  refine lv_icmp_eq (tgt := 834) C.1.1 C.1.2.1 dL_law_793 (by decide) (fun _ => kk H locs ?_) (fun hne => absurd (congrArg iI q.1) hne)
  exact ⟨sF, sH, r.2.1, r.2.2.1, sC, sK, sB, r.2.2.2, sU, sV, sS, sR, v, r7.2.1, r7.2.2.1, u, d, r7.2.2.2, ⟨h1, q.2.1, q.2.2, h4, h5, h6, h7⟩, Z⟩
set_option maxHeartbeats 4000000 in
set_option maxRecDepth 100000 in
theorem lc_minimal (hi : 0 ≤ i ∧ i + 3 ≤ (L : Int)) (C : xLw p s m args c g A b L xs) (I : xI g A s ad H locs) (hl : lv_has ls 4 [(3, .int (iI i)), (2, .ref (ad 13 0)), (1, .ref (ad 0 0)), (0, .ref b)]) (kk : ∀ (H1 : Heap) (locs1 : List Loc), xI g A s ad H1 locs1 → W p l e room_1 s m args below meth c H1 locs1 131 10637 Q (F0 m 834 ls [])) : W p l e room_1 s m args below meth c H locs 131 10637 Q (F0 m 798 ls []) := by
  obtain ⟨sF, sH, sP, sT, sC, sK, sB, sQ, sU, sV, sS, sR, v, w, t, u, d, z, hR, Z⟩ := I
  have hR0 := hR
  obtain ⟨h1, h2, h3, h4, h5, h6, h7⟩ := hR
  obtain ⟨r, r7, e1, e2, q⟩ : Sim (p_X6_minimal 1000 sF sH sT sC sK) (p_X7_minimal 1000 v t u) _ := s_minimal (Nat.le_refl 1000) h1 h3 h4
  refine lv_aload_n C.1.1 C.1.2.1 dL_law_798 rfl (lv_at hl 2 rfl) ?_
  refine x_callA (As := []) (rest := []) (q0 := 0) (pl := wM g (ad 13) v w t u d z) C.1 Z (k_X6_minimal l g 1000 (ad 0) (ad 1) (ad 2) (ad 3) (ad 4) (ad 5) (ad 6) (ad 7) (ad 8) (ad 9) (ad 10) (ad 11) (ad 12) sF sH sP sT sC sK sB sQ sU sV sS sR r e1) gL_law_X6_minimal yk_X6_minimal ⟨Nat.le_of_ble_eq_true rfl, Nat.le_of_ble_eq_true rfl⟩ rfl rfl ⟨Nat.le_of_ble_eq_true rfl, Nat.le_of_ble_eq_true rfl⟩ hl.1 rfl (Nat.le_of_ble_eq_true rfl) rfl dL_law_799 (fun H locs Z => ?_)
  have Z := Z.perm List.perm_append_comm
  refine lv_aload_n C.1.1 C.1.2.1 dL_law_802 rfl (lv_at hl 1 rfl) ?_
  refine x_callA (As := []) (rest := [.int (iI r.1)]) (q0 := 0) C.1 Z (k_X7_minimal l g 1000 (ad 13) v w t u d z r7 e2) gL_law_X7_minimal yk_X7_minimal ⟨Nat.le_of_ble_eq_true rfl, Nat.le_of_ble_eq_true rfl⟩ rfl rfl ⟨Nat.le_of_ble_eq_true rfl, Nat.le_of_ble_eq_true rfl⟩ hl.1 rfl (Nat.le_of_ble_eq_true rfl) rfl dL_law_803 (fun H locs Z => ?_)
  have Z := Z.perm List.perm_append_comm
  refine lv_icmp_eq (tgt := 834) C.1.1 C.1.2.1 dL_law_806 (by decide) (fun _ => kk H locs ?_) (fun hne => absurd (congrArg iI q.1) hne)
  exact ⟨sF, sH, sP, r.2.1, r.2.2.1, r.2.2.2, sB, sQ, sU, sV, sS, sR, v, w, r7.2.1, r7.2.2, d, z, ⟨h1, h2, q.2.1, q.2.2, h5, h6, h7⟩, Z⟩
set_option maxHeartbeats 4000000 in
set_option maxRecDepth 100000 in
theorem lc_count (hi : 0 ≤ i ∧ i + 3 ≤ (L : Int)) (C : xLw p s m args c g A b L xs) (I : xI g A s ad H locs) (hl : lv_has ls 4 [(3, .int (iI i)), (2, .ref (ad 13 0)), (1, .ref (ad 0 0)), (0, .ref b)]) (kk : ∀ (H1 : Heap) (locs1 : List Loc), xI g A s ad H1 locs1 → W p l e room_1 s m args below meth c H1 locs1 131 10637 Q (F0 m 834 ls [])) : W p l e room_1 s m args below meth c H locs 131 10637 Q (F0 m 811 ls []) := by
  obtain ⟨sF, sH, sP, sT, sC, sK, sB, sQ, sU, sV, sS, sR, v, w, t, u, d, z, hR, Z⟩ := I
  have hR0 := hR
  obtain ⟨h1, h2, h3, h4, h5, h6, h7⟩ := hR
  obtain ⟨r, r7, e1, e2, q⟩ : Sim (p_X6_count 1000 sF sH sT sC sK (sv xs (i + 1))) (p_X7_count 1000 v t u d (sv xs (i + 1))) _ := s_count (Nat.le_refl 1000) h1 h3 h4 (sv_in xs (i + 1))
  refine lv_aload_n C.1.1 C.1.2.1 dL_law_811 rfl (lv_at hl 2 rfl) ?_
  refine lv_aload_n C.1.1 C.1.2.1 dL_law_812 rfl (lv_at hl 3 rfl) ?_
  refine lv_iload_n C.1.1 C.1.2.1 dL_law_813 rfl (lv_at hl 0 rfl) ?_
  refine x_iconst C.1 dL_law_814 ?_
  refine x_iadd C.1 dL_law_815 ?_
  refine x_sld C Z (x := i + 1) ⟨by omega, by omega⟩ dL_law_816 ?_
  refine x_callA (As := [.int (iI (sv xs (i + 1)))]) (rest := []) (q0 := 0) (pl := wM g (ad 13) v w t u d z) C.1 Z (k_X6_count l g 1000 (ad 0) (ad 1) (ad 2) (ad 3) (ad 4) (ad 5) (ad 6) (ad 7) (ad 8) (ad 9) (ad 10) (ad 11) (ad 12) sF sH sP sT sC sK sB sQ sU sV sS sR (sv xs (i + 1)) r e1) gL_law_X6_count yk_X6_count ⟨Nat.le_of_ble_eq_true rfl, Nat.le_of_ble_eq_true rfl⟩ rfl rfl ⟨Nat.le_of_ble_eq_true rfl, Nat.le_of_ble_eq_true rfl⟩ hl.1 rfl (Nat.le_of_ble_eq_true rfl) rfl dL_law_817 (fun H locs Z => ?_)
  have Z := Z.perm List.perm_append_comm
  refine lv_aload_n C.1.1 C.1.2.1 dL_law_820 rfl (lv_at hl 1 rfl) ?_
  refine lv_aload_n C.1.1 C.1.2.1 dL_law_821 rfl (lv_at hl 3 rfl) ?_
  refine lv_iload_n C.1.1 C.1.2.1 dL_law_822 rfl (lv_at hl 0 rfl) ?_
  refine x_iconst C.1 dL_law_823 ?_
  refine x_iadd C.1 dL_law_824 ?_
  refine x_sld C Z (x := i + 1) ⟨by omega, by omega⟩ dL_law_825 ?_
  refine x_callA (As := [.int (iI (sv xs (i + 1)))]) (rest := [.int (iI r.1)]) (q0 := 0) C.1 Z (k_X7_count l g 1000 (ad 13) v w t u d z (sv xs (i + 1)) r7 e2) gL_law_X7_count yk_X7_count ⟨Nat.le_of_ble_eq_true rfl, Nat.le_of_ble_eq_true rfl⟩ rfl rfl ⟨Nat.le_of_ble_eq_true rfl, Nat.le_of_ble_eq_true rfl⟩ hl.1 rfl (Nat.le_of_ble_eq_true rfl) rfl dL_law_826 (fun H locs Z => ?_)
  have Z := Z.perm List.perm_append_comm
  refine lv_icmp_eq (tgt := 834) C.1.1 C.1.2.1 dL_law_829 (by decide) (fun _ => kk H locs ?_) (fun hne => absurd (congrArg iI q.1) hne)
  exact ⟨sF, sH, sP, r.2.1, r.2.2.1, r.2.2.2, sB, sQ, sU, sV, sS, sR, v, w, r7.2.1, r7.2.2.1, r7.2.2.2, z, ⟨h1, h2, q.2.1, q.2.2, h5, h6, h7⟩, Z⟩
end LWC
