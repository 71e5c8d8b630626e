section LWC
variable {p : Program} {l : Launch} {e : Env} {s : State} {m : MethodId} {args : Array Value} {below : List Frame} {meth : Method} {c : Code} {H : Heap} {locs : List Loc} {Q : State → Prop} {ls : Array Slot} {g : xG} {A : Nat → Prop} {ad : Nat → Nat → Nat} {b L : Nat} {xs : Nat → Int32} {i : Int}
set_option maxHeartbeats 4000000 in
set_option maxRecDepth 100000 in
theorem lc_end (hi : 0 ≤ i ∧ i + 3 ≤ (L : Int)) (C : xLw p s m args c g A b L xs) (I : xI g A s ad H locs) (hl : lv_has ls 4 [(3, .int (iI i)), (2, .ref (ad 13 0)), (1, .ref (ad 0 0)), (0, .ref b)]) (kk : ∀ (H1 : Heap) (locs1 : List Loc), xI g A s ad H1 locs1 → W p l e room_1 s m args below meth c H1 locs1 131 10637 Q (F0 m 834 ls [])) : W p l e room_1 s m args below meth c H locs 131 10637 Q (F0 m 492 ls []) := by
  obtain ⟨sF, sH, sP, sT, sC, sK, sB, sQ, sU, sV, sS, sR, v, w, t, u, d, z, hR, Z⟩ := I
  have hR0 := hR
  obtain ⟨h1, h2, h3, h4, h5, h6, h7⟩ := hR
  obtain ⟨r, r7, e1, e2, q⟩ : Sim (p_X6_end 1000 sF sH sP sT sQ (sv xs (i + 1))) (p_X7_end 1000 v w t (sv xs (i + 1))) _ := s_end (Nat.le_refl 1000) h1 h2 h3 (sv_in xs (i + 1))
  refine lv_aload_n C.1.1 C.1.2.1 dL_law_492 rfl (lv_at hl 2 rfl) ?_
  refine lv_aload_n C.1.1 C.1.2.1 dL_law_493 rfl (lv_at hl 3 rfl) ?_
  refine lv_iload_n C.1.1 C.1.2.1 dL_law_494 rfl (lv_at hl 0 rfl) ?_
  refine x_iconst C.1 dL_law_495 ?_
  refine x_iadd C.1 dL_law_496 ?_
  refine x_sld C Z (x := i + 1) ⟨by omega, by omega⟩ dL_law_497 ?_
  refine x_callA (As := [.int (iI (sv xs (i + 1)))]) (rest := []) (q0 := 0) (pl := wM g (ad 13) v w t u d z) C.1 Z (k_X6_end l g 1000 (ad 0) (ad 1) (ad 2) (ad 3) (ad 4) (ad 5) (ad 6) (ad 7) (ad 8) (ad 9) (ad 10) (ad 11) (ad 12) sF sH sP sT sC sK sB sQ sU sV sS sR (sv xs (i + 1)) r e1) gL_law_X6_end yk_X6_end ⟨Nat.le_of_ble_eq_true rfl, Nat.le_of_ble_eq_true rfl⟩ rfl rfl ⟨Nat.le_of_ble_eq_true rfl, Nat.le_of_ble_eq_true rfl⟩ hl.1 rfl (Nat.le_of_ble_eq_true rfl) rfl dL_law_498 (fun H locs Z => ?_)
  have Z := Z.perm List.perm_append_comm
  refine lv_aload_n C.1.1 C.1.2.1 dL_law_501 rfl (lv_at hl 1 rfl) ?_
  refine lv_aload_n C.1.1 C.1.2.1 dL_law_502 rfl (lv_at hl 3 rfl) ?_
  refine lv_iload_n C.1.1 C.1.2.1 dL_law_503 rfl (lv_at hl 0 rfl) ?_
  refine x_iconst C.1 dL_law_504 ?_
  refine x_iadd C.1 dL_law_505 ?_
  refine x_sld C Z (x := i + 1) ⟨by omega, by omega⟩ dL_law_506 ?_
  refine x_callA (As := [.int (iI (sv xs (i + 1)))]) (rest := [.int (iI r.1)]) (q0 := 0) C.1 Z (k_X7_end l g 1000 (ad 13) v w t u d z (sv xs (i + 1)) r7 e2) gL_law_X7_end yk_X7_end ⟨Nat.le_of_ble_eq_true rfl, Nat.le_of_ble_eq_true rfl⟩ rfl rfl ⟨Nat.le_of_ble_eq_true rfl, Nat.le_of_ble_eq_true rfl⟩ hl.1 rfl (Nat.le_of_ble_eq_true rfl) rfl dL_law_507 (fun H locs Z => ?_)
  have Z := Z.perm List.perm_append_comm
  refine lv_icmp_eq (tgt := 834) C.1.1 C.1.2.1 dL_law_510 (by decide) (fun _ => kk H locs ?_) (fun hne => absurd (congrArg iI q.1) hne)
  exact ⟨sF, sH, sP, r.2.1, sC, sK, sB, r.2.2, sU, sV, sS, sR, v, w, r7.2, u, d, z, ⟨h1, h2, q.2, h4, h5, h6, h7⟩, Z⟩
set_option maxHeartbeats 4000000 in
set_option maxRecDepth 100000 in
theorem lc_matches (hi : 0 ≤ i ∧ i + 3 ≤ (L : Int)) (C : xLw p s m args c g A b L xs) (I : xI g A s ad H locs) (hl : lv_has ls 4 [(3, .int (iI i)), (2, .ref (ad 13 0)), (1, .ref (ad 0 0)), (0, .ref b)]) (kk : ∀ (H1 : Heap) (locs1 : List Loc), xI g A s ad H1 locs1 → W p l e room_1 s m args below meth c H1 locs1 131 10637 Q (F0 m 834 ls [])) : W p l e room_1 s m args below meth c H locs 131 10637 Q (F0 m 515 ls []) := by
  obtain ⟨sF, sH, sP, sT, sC, sK, sB, sQ, sU, sV, sS, sR, v, w, t, u, d, z, hR, Z⟩ := I
  have hR0 := hR
  obtain ⟨h1, h2, h3, h4, h5, h6, h7⟩ := hR
  obtain ⟨r, r7, e1, e2, q⟩ : Sim (p_X6_matches 1000 sF sH sP sT sQ sS (sv xs (i + 1))) (p_X7_matches 1000 v w t (sv xs (i + 1))) _ := s_matches (Nat.le_refl 1000) h1 h2 h3 (sv_in xs (i + 1))
  refine lv_aload_n C.1.1 C.1.2.1 dL_law_515 rfl (lv_at hl 2 rfl) ?_
  refine lv_aload_n C.1.1 C.1.2.1 dL_law_516 rfl (lv_at hl 3 rfl) ?_
  refine lv_iload_n C.1.1 C.1.2.1 dL_law_517 rfl (lv_at hl 0 rfl) ?_
  refine x_iconst C.1 dL_law_518 ?_
  refine x_iadd C.1 dL_law_519 ?_
  refine x_sld C Z (x := i + 1) ⟨by omega, by omega⟩ dL_law_520 ?_
  refine x_callA (As := [.int (iI (sv xs (i + 1)))]) (rest := []) (q0 := 0) (pl := wM g (ad 13) v w t u d z) C.1 Z (k_X6_matches l g 1000 (ad 0) (ad 1) (ad 2) (ad 3) (ad 4) (ad 5) (ad 6) (ad 7) (ad 8) (ad 9) (ad 10) (ad 11) (ad 12) sF sH sP sT sC sK sB sQ sU sV sS sR (sv xs (i + 1)) r e1) gL_law_X6_matches yk_X6_matches ⟨Nat.le_of_ble_eq_true rfl, Nat.le_of_ble_eq_true rfl⟩ rfl rfl ⟨Nat.le_of_ble_eq_true rfl, Nat.le_of_ble_eq_true rfl⟩ hl.1 rfl (Nat.le_of_ble_eq_true rfl) rfl dL_law_521 (fun H locs Z => ?_)
  have Z := Z.perm List.perm_append_comm
  refine lv_aload_n C.1.1 C.1.2.1 dL_law_524 rfl (lv_at hl 1 rfl) ?_
  refine lv_aload_n C.1.1 C.1.2.1 dL_law_525 rfl (lv_at hl 3 rfl) ?_
  refine lv_iload_n C.1.1 C.1.2.1 dL_law_526 rfl (lv_at hl 0 rfl) ?_
  refine x_iconst C.1 dL_law_527 ?_
  refine x_iadd C.1 dL_law_528 ?_
  refine x_sld C Z (x := i + 1) ⟨by omega, by omega⟩ dL_law_529 ?_
  refine x_callA (As := [.int (iI (sv xs (i + 1)))]) (rest := [.int (iI r.1)]) (q0 := 0) C.1 Z (k_X7_matches l g 1000 (ad 13) v w t u d z (sv xs (i + 1)) r7 e2) gL_law_X7_matches yk_X7_matches ⟨Nat.le_of_ble_eq_true rfl, Nat.le_of_ble_eq_true rfl⟩ rfl rfl ⟨Nat.le_of_ble_eq_true rfl, Nat.le_of_ble_eq_true rfl⟩ hl.1 rfl (Nat.le_of_ble_eq_true rfl) rfl dL_law_530 (fun H locs Z => ?_)
  have Z := Z.perm List.perm_append_comm
  refine lv_icmp_eq (tgt := 834) C.1.1 C.1.2.1 dL_law_533 (by decide) (fun _ => kk H locs ?_) (fun hne => absurd (congrArg iI q.1) hne)
  exact ⟨sF, sH, sP, r.2.1, sC, sK, sB, r.2.2.1, sU, sV, r.2.2.2, sR, v, w, r7.2, u, d, z, ⟨h1, h2, q.2, h4, h5, h6, h7⟩, Z⟩
set_option maxHeartbeats 4000000 in
set_option maxRecDepth 100000 in
theorem lc_parts (hi : 0 ≤ i ∧ i + 3 ≤ (L : Int)) (C : xLw p s m args c g A b L xs) (I : xI g A s ad H locs) (hl : lv_has ls 4 [(3, .int (iI i)), (2, .ref (ad 13 0)), (1, .ref (ad 0 0)), (0, .ref b)]) (kk : ∀ (H1 : Heap) (locs1 : List Loc), xI g A s ad H1 locs1 → W p l e room_1 s m args below meth c H1 locs1 131 10637 Q (F0 m 834 ls [])) : W p l e room_1 s m args below meth c H locs 131 10637 Q (F0 m 538 ls []) := by
  obtain ⟨sF, sH, sP, sT, sC, sK, sB, sQ, sU, sV, sS, sR, v, w, t, u, d, z, hR, Z⟩ := I
  have hR0 := hR
  obtain ⟨h1, h2, h3, h4, h5, h6, h7⟩ := hR
  obtain ⟨r, r7, e1, e2, q⟩ : Sim (p_X6_parts 1000 sF sH sP sT sQ sS) (p_X7_parts 1000 v w t) _ := s_parts (Nat.le_refl 1000) h1 h2 h3
  refine lv_aload_n C.1.1 C.1.2.1 dL_law_538 rfl (lv_at hl 2 rfl) ?_
  refine x_callA (As := []) (rest := []) (q0 := 0) (pl := wM g (ad 13) v w t u d z) C.1 Z (k_X6_parts l g 1000 (ad 0) (ad 1) (ad 2) (ad 3) (ad 4) (ad 5) (ad 6) (ad 7) (ad 8) (ad 9) (ad 10) (ad 11) (ad 12) sF sH sP sT sC sK sB sQ sU sV sS sR r e1) gL_law_X6_parts yk_X6_parts ⟨Nat.le_of_ble_eq_true rfl, Nat.le_of_ble_eq_true rfl⟩ rfl rfl ⟨Nat.le_of_ble_eq_true rfl, Nat.le_of_ble_eq_true rfl⟩ hl.1 rfl (Nat.le_of_ble_eq_true rfl) rfl dL_law_539 (fun H locs Z => ?_)
  have Z := Z.perm List.perm_append_comm
  refine lv_aload_n C.1.1 C.1.2.1 dL_law_542 rfl (lv_at hl 1 rfl) ?_
  refine x_callA (As := []) (rest := [.int (iI r.1)]) (q0 := 0) C.1 Z (k_X7_parts l g 1000 (ad 13) v w t u d z r7 e2) gL_law_X7_parts yk_X7_parts ⟨Nat.le_of_ble_eq_true rfl, Nat.le_of_ble_eq_true rfl⟩ rfl rfl ⟨Nat.le_of_ble_eq_true rfl, Nat.le_of_ble_eq_true rfl⟩ hl.1 rfl (Nat.le_of_ble_eq_true rfl) rfl dL_law_543 (fun H locs Z => ?_)
  have Z := Z.perm List.perm_append_comm
  refine lv_icmp_eq (tgt := 834) C.1.1 C.1.2.1 dL_law_546 (by decide) (fun _ => kk H locs ?_) (fun hne => absurd (congrArg iI q.1) hne)
  exact ⟨sF, sH, sP, r.2.1, sC, sK, sB, r.2.2.1, sU, sV, r.2.2.2, sR, v, w, r7.2, u, d, z, ⟨h1, h2, q.2, h4, h5, h6, h7⟩, Z⟩
set_option maxHeartbeats 4000000 in
set_option maxRecDepth 100000 in
theorem lc_factors (hi : 0 ≤ i ∧ i + 3 ≤ (L : Int)) (C : xLw p s m args c g A b L xs) (I : xI g A s ad H locs) (hl : lv_has ls 4 [(3, .int (iI i)), (2, .ref (ad 13 0)), (1, .ref (ad 0 0)), (0, .ref b)]) (kk : ∀ (H1 : Heap) (locs1 : List Loc), xI g A s ad H1 locs1 → W p l e room_1 s m args below meth c H1 locs1 131 10637 Q (F0 m 834 ls [])) : W p l e room_1 s m args below meth c H locs 131 10637 Q (F0 m 551 ls []) := by
  obtain ⟨sF, sH, sP, sT, sC, sK, sB, sQ, sU, sV, sS, sR, v, w, t, u, d, z, hR, Z⟩ := I
  have hR0 := hR
  obtain ⟨h1, h2, h3, h4, h5, h6, h7⟩ := hR
  obtain ⟨r, r7, e1, e2, q⟩ : Sim (p_X6_factors 1000 sF sH sT sC sK (sv xs (i + 1)) (sv xs (i + 2))) (p_X7_factors 1000 v t u (sv xs (i + 1)) (sv xs (i + 2))) _ := s_factors (Nat.le_refl 1000) h1 h3 h4 (sv_in xs (i + 1)) (sv_in xs (i + 2))
  refine lv_aload_n C.1.1 C.1.2.1 dL_law_551 rfl (lv_at hl 2 rfl) ?_
  refine lv_aload_n C.1.1 C.1.2.1 dL_law_552 rfl (lv_at hl 3 rfl) ?_
  refine lv_iload_n C.1.1 C.1.2.1 dL_law_553 rfl (lv_at hl 0 rfl) ?_
  refine x_iconst C.1 dL_law_554 ?_
  refine x_iadd C.1 dL_law_555 ?_
  refine x_sld C Z (x := i + 1) ⟨by omega, by omega⟩ dL_law_556 ?_
  refine lv_aload_n C.1.1 C.1.2.1 dL_law_557 rfl (lv_at hl 3 rfl) ?_
  refine lv_iload_n C.1.1 C.1.2.1 dL_law_558 rfl (lv_at hl 0 rfl) ?_
  refine x_iconst C.1 dL_law_559 ?_
  refine x_iadd C.1 dL_law_560 ?_
  refine x_sld C Z (x := i + 2) ⟨by omega, by omega⟩ dL_law_561 ?_
  refine x_callA (As := [.int (iI (sv xs (i + 1))), .int (iI (sv xs (i + 2)))]) (rest := []) (q0 := 0) (pl := wM g (ad 13) v w t u d z) C.1 Z (k_X6_factors l g 1000 (ad 0) (ad 1) (ad 2) (ad 3) (ad 4) (ad 5) (ad 6) (ad 7) (ad 8) (ad 9) (ad 10) (ad 11) (ad 12) sF sH sP sT sC sK sB sQ sU sV sS sR (sv xs (i + 1)) (sv xs (i + 2)) r e1) gL_law_X6_factors yk_X6_factors ⟨Nat.le_of_ble_eq_true rfl, Nat.le_of_ble_eq_true rfl⟩ rfl rfl ⟨Nat.le_of_ble_eq_true rfl, Nat.le_of_ble_eq_true rfl⟩ hl.1 rfl (Nat.le_of_ble_eq_true rfl) rfl dL_law_562 (fun H locs Z => ?_)
  have Z := Z.perm List.perm_append_comm
  refine lv_aload_n C.1.1 C.1.2.1 dL_law_565 rfl (lv_at hl 1 rfl) ?_
  refine lv_aload_n C.1.1 C.1.2.1 dL_law_566 rfl (lv_at hl 3 rfl) ?_
  refine lv_iload_n C.1.1 C.1.2.1 dL_law_567 rfl (lv_at hl 0 rfl) ?_
  refine x_iconst C.1 dL_law_568 ?_
  refine x_iadd C.1 dL_law_569 ?_
  refine x_sld C Z (x := i + 1) ⟨by omega, by omega⟩ dL_law_570 ?_
  refine lv_aload_n C.1.1 C.1.2.1 dL_law_571 rfl (lv_at hl 3 rfl) ?_
  refine lv_iload_n C.1.1 C.1.2.1 dL_law_572 rfl (lv_at hl 0 rfl) ?_
  refine x_iconst C.1 dL_law_573 ?_
  refine x_iadd C.1 dL_law_574 ?_
  refine x_sld C Z (x := i + 2) ⟨by omega, by omega⟩ dL_law_575 ?_
  refine x_callA (As := [.int (iI (sv xs (i + 1))), .int (iI (sv xs (i + 2)))]) (rest := [.int (iI r.1)]) (q0 := 0) C.1 Z (k_X7_factors l g 1000 (ad 13) v w t u d z (sv xs (i + 1)) (sv xs (i + 2)) r7 e2) gL_law_X7_factors yk_X7_factors ⟨Nat.le_of_ble_eq_true rfl, Nat.le_of_ble_eq_true rfl⟩ rfl rfl ⟨Nat.le_of_ble_eq_true rfl, Nat.le_of_ble_eq_true rfl⟩ hl.1 rfl (Nat.le_of_ble_eq_true rfl) rfl dL_law_576 (fun H locs Z => ?_)
  have Z := Z.perm List.perm_append_comm
  refine lv_icmp_eq (tgt := 834) C.1.1 C.1.2.1 dL_law_579 (by decide) (fun _ => kk H locs ?_) (fun hne => absurd (congrArg iI q.1) hne)
  exact ⟨sF, sH, sP, r.2.1, r.2.2.1, r.2.2.2, sB, sQ, sU, sV, sS, sR, v, w, r7.2.1, r7.2.2, d, z, ⟨h1, h2, q.2.1, q.2.2, h5, h6, h7⟩, Z⟩
set_option maxHeartbeats 4000000 in
set_option maxRecDepth 100000 in
theorem lc_kth (hi : 0 ≤ i ∧ i + 3 ≤ (L : Int)) (C : xLw p s m args c g A b L xs) (I : xI g A s ad H locs) (hl : lv_has ls 4 [(3, .int (iI i)), (2, .ref (ad 13 0)), (1, .ref (ad 0 0)), (0, .ref b)]) (kk : ∀ (H1 : Heap) (locs1 : List Loc), xI g A s ad H1 locs1 → W p l e room_1 s m args below meth c H1 locs1 131 10637 Q (F0 m 834 ls [])) : W p l e room_1 s m args below meth c H locs 131 10637 Q (F0 m 584 ls []) := by
  obtain ⟨sF, sH, sP, sT, sC, sK, sB, sQ, sU, sV, sS, sR, v, w, t, u, d, z, hR, Z⟩ := I
  have hR0 := hR
  obtain ⟨h1, h2, h3, h4, h5, h6, h7⟩ := hR
  obtain ⟨r, r7, e1, e2, q⟩ : Sim (p_X6_kth 1000 sF sH sP sT sC sK sB (sv xs (i + 1)) (sv xs (i + 2))) (p_X7_kth 1000 v w t u (sv xs (i + 1)) (sv xs (i + 2))) _ := s_kth (Nat.le_refl 1000) h1 h2 h3 h4 h5 (sv_in xs (i + 1)) (sv_in xs (i + 2))
  refine lv_aload_n C.1.1 C.1.2.1 dL_law_584 rfl (lv_at hl 2 rfl) ?_
  refine lv_aload_n C.1.1 C.1.2.1 dL_law_585 rfl (lv_at hl 3 rfl) ?_
  refine lv_iload_n C.1.1 C.1.2.1 dL_law_586 rfl (lv_at hl 0 rfl) ?_
  refine x_iconst C.1 dL_law_587 ?_
  refine x_iadd C.1 dL_law_588 ?_
  refine x_sld C Z (x := i + 1) ⟨by omega, by omega⟩ dL_law_589 ?_
  refine lv_aload_n C.1.1 C.1.2.1 dL_law_590 rfl (lv_at hl 3 rfl) ?_
  refine lv_iload_n C.1.1 C.1.2.1 dL_law_591 rfl (lv_at hl 0 rfl) ?_
  refine x_iconst C.1 dL_law_592 ?_
  refine x_iadd C.1 dL_law_593 ?_
  refine x_sld C Z (x := i + 2) ⟨by omega, by omega⟩ dL_law_594 ?_
  refine x_callA (As := [.int (iI (sv xs (i + 1))), .int (iI (sv xs (i + 2)))]) (rest := []) (q0 := 0) (pl := wM g (ad 13) v w t u d z) C.1 Z (k_X6_kth l g 1000 (ad 0) (ad 1) (ad 2) (ad 3) (ad 4) (ad 5) (ad 6) (ad 7) (ad 8) (ad 9) (ad 10) (ad 11) (ad 12) sF sH sP sT sC sK sB sQ sU sV sS sR (sv xs (i + 1)) (sv xs (i + 2)) r e1) gL_law_X6_kth yk_X6_kth ⟨Nat.le_of_ble_eq_true rfl, Nat.le_of_ble_eq_true rfl⟩ rfl rfl ⟨Nat.le_of_ble_eq_true rfl, Nat.le_of_ble_eq_true rfl⟩ hl.1 rfl (Nat.le_of_ble_eq_true rfl) rfl dL_law_595 (fun H locs Z => ?_)
  have Z := Z.perm List.perm_append_comm
  refine lv_aload_n C.1.1 C.1.2.1 dL_law_598 rfl (lv_at hl 1 rfl) ?_
  refine lv_aload_n C.1.1 C.1.2.1 dL_law_599 rfl (lv_at hl 3 rfl) ?_
  refine lv_iload_n C.1.1 C.1.2.1 dL_law_600 rfl (lv_at hl 0 rfl) ?_
  refine x_iconst C.1 dL_law_601 ?_
  refine x_iadd C.1 dL_law_602 ?_
  refine x_sld C Z (x := i + 1) ⟨by omega, by omega⟩ dL_law_603 ?_
  refine lv_aload_n C.1.1 C.1.2.1 dL_law_604 rfl (lv_at hl 3 rfl) ?_
  refine lv_iload_n C.1.1 C.1.2.1 dL_law_605 rfl (lv_at hl 0 rfl) ?_
  refine x_iconst C.1 dL_law_606 ?_
  refine x_iadd C.1 dL_law_607 ?_
  refine x_sld C Z (x := i + 2) ⟨by omega, by omega⟩ dL_law_608 ?_
  refine x_callA (As := [.int (iI (sv xs (i + 1))), .int (iI (sv xs (i + 2)))]) (rest := [.int (iI r.1)]) (q0 := 0) C.1 Z (k_X7_kth l g 1000 (ad 13) v w t u d z (sv xs (i + 1)) (sv xs (i + 2)) r7 e2) gL_law_X7_kth yk_X7_kth ⟨Nat.le_of_ble_eq_true rfl, Nat.le_of_ble_eq_true rfl⟩ rfl rfl ⟨Nat.le_of_ble_eq_true rfl, Nat.le_of_ble_eq_true rfl⟩ hl.1 rfl (Nat.le_of_ble_eq_true rfl) rfl dL_law_609 (fun H locs Z => ?_)
  have Z := Z.perm List.perm_append_comm
  refine lv_icmp_eq (tgt := 834) C.1.1 C.1.2.1 dL_law_612 (by decide) (fun _ => kk H locs ?_) (fun hne => absurd (congrArg iI q.1) hne)
  exact ⟨sF, sH, r.2.1, r.2.2.1, r.2.2.2.1, r.2.2.2.2.1, r.2.2.2.2.2, sQ, sU, sV, sS, sR, v, r7.2.1, r7.2.2.1, r7.2.2.2, d, z, ⟨h1, q.2.1, q.2.2.1, q.2.2.2.1, q.2.2.2.2, h6, h7⟩, Z⟩
set_option maxHeartbeats 4000000 in
set_option maxRecDepth 100000 in
theorem lc_before (hi : 0 ≤ i ∧ i + 3 ≤ (L : Int)) (C : xLw p s m args c g A b L xs) (I : xI g A s ad H locs) (hl : lv_has ls 4 [(3, .int (iI i)), (2, .ref (ad 13 0)), (1, .ref (ad 0 0)), (0, .ref b)]) (kk : ∀ (H1 : Heap) (locs1 : List Loc), xI g A s ad H1 locs1 → W p l e room_1 s m args below meth c H1 locs1 131 10637 Q (F0 m 834 ls [])) : W p l e room_1 s m args below meth c H locs 131 10637 Q (F0 m 617 ls []) := by
  obtain ⟨sF, sH, sP, sT, sC, sK, sB, sQ, sU, sV, sS, sR, v, w, t, u, d, z, hR, Z⟩ := I
  have hR0 := hR
  obtain ⟨h1, h2, h3, h4, h5, h6, h7⟩ := hR
  obtain ⟨r, r7, e1, e2, q⟩ : Sim (p_X6_before 1000 sF sH sP sT sB sQ) (p_X7_before 1000 v w t u) _ := s_before (Nat.le_refl 1000) h1 h2 h3 h5
  refine lv_aload_n C.1.1 C.1.2.1 dL_law_617 rfl (lv_at hl 2 rfl) ?_
  refine x_callA (As := []) (rest := []) (q0 := 0) (pl := wM g (ad 13) v w t u d z) C.1 Z (k_X6_before l g 1000 (ad 0) (ad 1) (ad 2) (ad 3) (ad 4) (ad 5) (ad 6) (ad 7) (ad 8) (ad 9) (ad 10) (ad 11) (ad 12) sF sH sP sT sC sK sB sQ sU sV sS sR r e1) gL_law_X6_before yk_X6_before ⟨Nat.le_of_ble_eq_true rfl, Nat.le_of_ble_eq_true rfl⟩ rfl rfl ⟨Nat.le_of_ble_eq_true rfl, Nat.le_of_ble_eq_true rfl⟩ hl.1 rfl (Nat.le_of_ble_eq_true rfl) rfl dL_law_618 (fun H locs Z => ?_)
  have Z := Z.perm List.perm_append_comm
  refine lv_aload_n C.1.1 C.1.2.1 dL_law_621 rfl (lv_at hl 1 rfl) ?_
  refine x_callA (As := []) (rest := [.int (iI r.1)]) (q0 := 0) C.1 Z (k_X7_before l g 1000 (ad 13) v w t u d z r7 e2) gL_law_X7_before yk_X7_before ⟨Nat.le_of_ble_eq_true rfl, Nat.le_of_ble_eq_true rfl⟩ rfl rfl ⟨Nat.le_of_ble_eq_true rfl, Nat.le_of_ble_eq_true rfl⟩ hl.1 rfl (Nat.le_of_ble_eq_true rfl) rfl dL_law_622 (fun H locs Z => ?_)
  have Z := Z.perm List.perm_append_comm
  refine lv_icmp_eq (tgt := 834) C.1.1 C.1.2.1 dL_law_625 (by decide) (fun _ => kk H locs ?_) (fun hne => absurd (congrArg iI q.1) hne)
  exact ⟨sF, sH, sP, r.2.1, sC, sK, r.2.2.1, r.2.2.2, sU, sV, sS, sR, v, w, r7.2.1, r7.2.2, d, z, ⟨h1, h2, q.2.1, h4, q.2.2, h6, h7⟩, Z⟩
set_option maxHeartbeats 4000000 in
set_option maxRecDepth 100000 in
theorem lc_group (hi : 0 ≤ i ∧ i + 3 ≤ (L : Int)) (C : xLw p s m args c g A b L xs) (I : xI g A s ad H locs) (hl : lv_has ls 4 [(3, .int (iI i)), (2, .ref (ad 13 0)), (1, .ref (ad 0 0)), (0, .ref b)]) (kk : ∀ (H1 : Heap) (locs1 : List Loc), xI g A s ad H1 locs1 → W p l e room_1 s m args below meth c H1 locs1 131 10637 Q (F0 m 834 ls [])) : W p l e room_1 s m args below meth c H locs 131 10637 Q (F0 m 630 ls []) := by
  obtain ⟨sF, sH, sP, sT, sC, sK, sB, sQ, sU, sV, sS, sR, v, w, t, u, d, z, hR, Z⟩ := I
  have hR0 := hR
  obtain ⟨h1, h2, h3, h4, h5, h6, h7⟩ := hR
  obtain ⟨r, r7, e1, e2, q⟩ : Sim (p_X6_group 1000 sF sH sT sC sK (sv xs (i + 1)) (sv xs (i + 2))) (p_X7_group 1000 v t d (sv xs (i + 1)) (sv xs (i + 2))) _ := s_group (Nat.le_refl 1000) h1 h3 h4 (sv_in xs (i + 1)) (sv_in xs (i + 2))
  refine lv_aload_n C.1.1 C.1.2.1 dL_law_630 rfl (lv_at hl 2 rfl) ?_
  refine lv_aload_n C.1.1 C.1.2.1 dL_law_631 rfl (lv_at hl 3 rfl) ?_
  refine lv_iload_n C.1.1 C.1.2.1 dL_law_632 rfl (lv_at hl 0 rfl) ?_
  refine x_iconst C.1 dL_law_633 ?_
  refine x_iadd C.1 dL_law_634 ?_
  refine x_sld C Z (x := i + 1) ⟨by omega, by omega⟩ dL_law_635 ?_
  refine lv_aload_n C.1.1 C.1.2.1 dL_law_636 rfl (lv_at hl 3 rfl) ?_
  refine lv_iload_n C.1.1 C.1.2.1 dL_law_637 rfl (lv_at hl 0 rfl) ?_
  refine x_iconst C.1 dL_law_638 ?_
  refine x_iadd C.1 dL_law_639 ?_
  refine x_sld C Z (x := i + 2) ⟨by omega, by omega⟩ dL_law_640 ?_
  refine x_callA (As := [.int (iI (sv xs (i + 1))), .int (iI (sv xs (i + 2)))]) (rest := []) (q0 := 0) (pl := wM g (ad 13) v w t u d z) C.1 Z (k_X6_group l g 1000 (ad 0) (ad 1) (ad 2) (ad 3) (ad 4) (ad 5) (ad 6) (ad 7) (ad 8) (ad 9) (ad 10) (ad 11) (ad 12) sF sH sP sT sC sK sB sQ sU sV sS sR (sv xs (i + 1)) (sv xs (i + 2)) r e1) gL_law_X6_group yk_X6_group ⟨Nat.le_of_ble_eq_true rfl, Nat.le_of_ble_eq_true rfl⟩ rfl rfl ⟨Nat.le_of_ble_eq_true rfl, Nat.le_of_ble_eq_true rfl⟩ hl.1 rfl (Nat.le_of_ble_eq_true rfl) rfl dL_law_641 (fun H locs Z => ?_)
  have Z := Z.perm List.perm_append_comm
  refine lv_aload_n C.1.1 C.1.2.1 dL_law_644 rfl (lv_at hl 1 rfl) ?_
  refine lv_aload_n C.1.1 C.1.2.1 dL_law_645 rfl (lv_at hl 3 rfl) ?_
  refine lv_iload_n C.1.1 C.1.2.1 dL_law_646 rfl (lv_at hl 0 rfl) ?_
  refine x_iconst C.1 dL_law_647 ?_
  refine x_iadd C.1 dL_law_648 ?_
  refine x_sld C Z (x := i + 1) ⟨by omega, by omega⟩ dL_law_649 ?_
  refine lv_aload_n C.1.1 C.1.2.1 dL_law_650 rfl (lv_at hl 3 rfl) ?_
  refine lv_iload_n C.1.1 C.1.2.1 dL_law_651 rfl (lv_at hl 0 rfl) ?_
  refine x_iconst C.1 dL_law_652 ?_
  refine x_iadd C.1 dL_law_653 ?_
  refine x_sld C Z (x := i + 2) ⟨by omega, by omega⟩ dL_law_654 ?_
  refine x_callA (As := [.int (iI (sv xs (i + 1))), .int (iI (sv xs (i + 2)))]) (rest := [.int (iI r.1)]) (q0 := 0) C.1 Z (k_X7_group l g 1000 (ad 13) v w t u d z (sv xs (i + 1)) (sv xs (i + 2)) r7 e2) gL_law_X7_group yk_X7_group ⟨Nat.le_of_ble_eq_true rfl, Nat.le_of_ble_eq_true rfl⟩ rfl rfl ⟨Nat.le_of_ble_eq_true rfl, Nat.le_of_ble_eq_true rfl⟩ hl.1 rfl (Nat.le_of_ble_eq_true rfl) rfl dL_law_655 (fun H locs Z => ?_)
  have Z := Z.perm List.perm_append_comm
  refine lv_icmp_eq (tgt := 834) C.1.1 C.1.2.1 dL_law_658 (by decide) (fun _ => kk H locs ?_) (fun hne => absurd (congrArg iI q.1) hne)
  exact ⟨sF, sH, sP, r.2.1, r.2.2.1, r.2.2.2, sB, sQ, sU, sV, sS, sR, v, w, r7.2.1, u, r7.2.2, z, ⟨h1, h2, q.2.1, q.2.2, h5, h6, h7⟩, Z⟩
end LWC
