section LWC
variable {p : Program} {l : Launch} {e : Env} {s : State} {m : MethodId} {args : Array Value} {below : List Frame} {meth : Method} {c : Code} {H : Heap} {locs : List Loc} {Q : State → Prop} {ls : Array Slot} {g : xG} {A : Nat → Prop} {ad : Nat → Nat → Nat} {b L : Nat} {xs : Nat → Int32} {i : Int}
set_option maxHeartbeats 4000000 in
set_option maxRecDepth 100000 in
theorem lc_more (hi : 0 ≤ i ∧ i + 3 ≤ (L : Int)) (C : xLw p s m args c g A b L xs) (I : xI g A s ad H locs) (hl : lv_has ls 4 [(3, .int (iI i)), (2, .ref (ad 13 0)), (1, .ref (ad 0 0)), (0, .ref b)]) (kk : ∀ (H1 : Heap) (locs1 : List Loc), xI g A s ad H1 locs1 → W p l e room_1 s m args below meth c H1 locs1 131 10637 Q (F0 m 834 ls [])) : W p l e room_1 s m args below meth c H locs 131 10637 Q (F0 m 321 ls []) := by
  obtain ⟨sF, sH, sP, sT, sC, sK, sB, sQ, sU, sV, sS, sR, v, w, t, u, d, z, hR, Z⟩ := I
  have hR0 := hR
  obtain ⟨h1, h2, h3, h4, h5, h6, h7⟩ := hR
  obtain ⟨r, r7, e1, e2, q⟩ : Sim (p_X6_more 1000 sH sU sV sS sR (sv xs (i + 1)) (sv xs (i + 2))) (p_X7_more 1000 v t u (sv xs (i + 1)) (sv xs (i + 2))) _ := s_more (Nat.le_refl 1000) h1 h6 h7 (sv_in xs (i + 1)) (sv_in xs (i + 2))
  refine lv_aload_n C.1.1 C.1.2.1 dL_law_321 rfl (lv_at hl 2 rfl) ?_
  refine lv_aload_n C.1.1 C.1.2.1 dL_law_322 rfl (lv_at hl 3 rfl) ?_
  refine lv_iload_n C.1.1 C.1.2.1 dL_law_323 rfl (lv_at hl 0 rfl) ?_
  refine x_iconst C.1 dL_law_324 ?_
  refine x_iadd C.1 dL_law_325 ?_
  refine x_sld C Z (x := i + 1) ⟨by omega, by omega⟩ dL_law_326 ?_
  refine lv_aload_n C.1.1 C.1.2.1 dL_law_327 rfl (lv_at hl 3 rfl) ?_
  refine lv_iload_n C.1.1 C.1.2.1 dL_law_328 rfl (lv_at hl 0 rfl) ?_
  refine x_iconst C.1 dL_law_329 ?_
  refine x_iadd C.1 dL_law_330 ?_
  refine x_sld C Z (x := i + 2) ⟨by omega, by omega⟩ dL_law_331 ?_
  refine x_callA (As := [.int (iI (sv xs (i + 1))), .int (iI (sv xs (i + 2)))]) (rest := []) (q0 := 0) (pl := wM g (ad 13) v w t u d z) C.1 Z (k_X6_more l g 1000 (ad 0) (ad 1) (ad 2) (ad 3) (ad 4) (ad 5) (ad 6) (ad 7) (ad 8) (ad 9) (ad 10) (ad 11) (ad 12) sF sH sP sT sC sK sB sQ sU sV sS sR (sv xs (i + 1)) (sv xs (i + 2)) r e1) gL_law_X6_more yk_X6_more ⟨Nat.le_of_ble_eq_true rfl, Nat.le_of_ble_eq_true rfl⟩ rfl rfl ⟨Nat.le_of_ble_eq_true rfl, Nat.le_of_ble_eq_true rfl⟩ hl.1 rfl (Nat.le_of_ble_eq_true rfl) rfl dL_law_332 (fun H locs Z => ?_)
  have Z := Z.perm List.perm_append_comm
  refine lv_aload_n C.1.1 C.1.2.1 dL_law_335 rfl (lv_at hl 1 rfl) ?_
  refine lv_aload_n C.1.1 C.1.2.1 dL_law_336 rfl (lv_at hl 3 rfl) ?_
  refine lv_iload_n C.1.1 C.1.2.1 dL_law_337 rfl (lv_at hl 0 rfl) ?_
  refine x_iconst C.1 dL_law_338 ?_
  refine x_iadd C.1 dL_law_339 ?_
  refine x_sld C Z (x := i + 1) ⟨by omega, by omega⟩ dL_law_340 ?_
  refine lv_aload_n C.1.1 C.1.2.1 dL_law_341 rfl (lv_at hl 3 rfl) ?_
  refine lv_iload_n C.1.1 C.1.2.1 dL_law_342 rfl (lv_at hl 0 rfl) ?_
  refine x_iconst C.1 dL_law_343 ?_
  refine x_iadd C.1 dL_law_344 ?_
  refine x_sld C Z (x := i + 2) ⟨by omega, by omega⟩ dL_law_345 ?_
  refine x_callA (As := [.int (iI (sv xs (i + 1))), .int (iI (sv xs (i + 2)))]) (rest := [.int (iI r.1)]) (q0 := 0) C.1 Z (k_X7_more l g 1000 (ad 13) v w t u d z (sv xs (i + 1)) (sv xs (i + 2)) r7 e2) gL_law_X7_more yk_X7_more ⟨Nat.le_of_ble_eq_true rfl, Nat.le_of_ble_eq_true rfl⟩ rfl rfl ⟨Nat.le_of_ble_eq_true rfl, Nat.le_of_ble_eq_true rfl⟩ hl.1 rfl (Nat.le_of_ble_eq_true rfl) rfl dL_law_346 (fun H locs Z => ?_)
  have Z := Z.perm List.perm_append_comm
  refine lv_icmp_eq (tgt := 834) C.1.1 C.1.2.1 dL_law_349 (by decide) (fun _ => kk H locs ?_) (fun hne => absurd (congrArg iI q.1) hne)
  exact ⟨sF, sH, sP, sT, sC, sK, sB, sQ, r.2.1, r.2.2.1, r.2.2.2.1, r.2.2.2.2, v, w, r7.2.1, r7.2.2, d, z, ⟨h1, h2, h3, h4, h5, q.2.1, q.2.2⟩, Z⟩
set_option maxHeartbeats 4000000 in
set_option maxRecDepth 100000 in
theorem lc_letter (hi : 0 ≤ i ∧ i + 3 ≤ (L : Int)) (C : xLw p s m args c g A b L xs) (I : xI g A s ad H locs) (hl : lv_has ls 4 [(3, .int (iI i)), (2, .ref (ad 13 0)), (1, .ref (ad 0 0)), (0, .ref b)]) (kk : ∀ (H1 : Heap) (locs1 : List Loc), xI g A s ad H1 locs1 → W p l e room_1 s m args below meth c H1 locs1 131 10637 Q (F0 m 834 ls [])) : W p l e room_1 s m args below meth c H locs 131 10637 Q (F0 m 354 ls []) := by
  obtain ⟨sF, sH, sP, sT, sC, sK, sB, sQ, sU, sV, sS, sR, v, w, t, u, d, z, hR, Z⟩ := I
  have hR0 := hR
  obtain ⟨h1, h2, h3, h4, h5, h6, h7⟩ := hR
  obtain ⟨r, r7, e1, e2, q⟩ : Sim (p_X6_letter 1000 sF sH sT (sv xs (i + 1)) (sv xs (i + 2))) (p_X7_letter 1000 v t (sv xs (i + 1)) (sv xs (i + 2))) _ := s_letter (Nat.le_refl 1000) h1 h3 (sv_in xs (i + 1)) (sv_in xs (i + 2))
  refine lv_aload_n C.1.1 C.1.2.1 dL_law_354 rfl (lv_at hl 2 rfl) ?_
  refine lv_aload_n C.1.1 C.1.2.1 dL_law_355 rfl (lv_at hl 3 rfl) ?_
  refine lv_iload_n C.1.1 C.1.2.1 dL_law_356 rfl (lv_at hl 0 rfl) ?_
  refine x_iconst C.1 dL_law_357 ?_
  refine x_iadd C.1 dL_law_358 ?_
  refine x_sld C Z (x := i + 1) ⟨by omega, by omega⟩ dL_law_359 ?_
  refine lv_aload_n C.1.1 C.1.2.1 dL_law_360 rfl (lv_at hl 3 rfl) ?_
  refine lv_iload_n C.1.1 C.1.2.1 dL_law_361 rfl (lv_at hl 0 rfl) ?_
  refine x_iconst C.1 dL_law_362 ?_
  refine x_iadd C.1 dL_law_363 ?_
  refine x_sld C Z (x := i + 2) ⟨by omega, by omega⟩ dL_law_364 ?_
  refine x_callA (As := [.int (iI (sv xs (i + 1))), .int (iI (sv xs (i + 2)))]) (rest := []) (q0 := 0) (pl := wM g (ad 13) v w t u d z) C.1 Z (k_X6_letter l g 1000 (ad 0) (ad 1) (ad 2) (ad 3) (ad 4) (ad 5) (ad 6) (ad 7) (ad 8) (ad 9) (ad 10) (ad 11) (ad 12) sF sH sP sT sC sK sB sQ sU sV sS sR (sv xs (i + 1)) (sv xs (i + 2)) r e1) gL_law_X6_letter yk_X6_letter ⟨Nat.le_of_ble_eq_true rfl, Nat.le_of_ble_eq_true rfl⟩ rfl rfl ⟨Nat.le_of_ble_eq_true rfl, Nat.le_of_ble_eq_true rfl⟩ hl.1 rfl (Nat.le_of_ble_eq_true rfl) rfl dL_law_365 (fun H locs Z => ?_)
  have Z := Z.perm List.perm_append_comm
  refine lv_aload_n C.1.1 C.1.2.1 dL_law_368 rfl (lv_at hl 1 rfl) ?_
  refine lv_aload_n C.1.1 C.1.2.1 dL_law_369 rfl (lv_at hl 3 rfl) ?_
  refine lv_iload_n C.1.1 C.1.2.1 dL_law_370 rfl (lv_at hl 0 rfl) ?_
  refine x_iconst C.1 dL_law_371 ?_
  refine x_iadd C.1 dL_law_372 ?_
  refine x_sld C Z (x := i + 1) ⟨by omega, by omega⟩ dL_law_373 ?_
  refine lv_aload_n C.1.1 C.1.2.1 dL_law_374 rfl (lv_at hl 3 rfl) ?_
  refine lv_iload_n C.1.1 C.1.2.1 dL_law_375 rfl (lv_at hl 0 rfl) ?_
  refine x_iconst C.1 dL_law_376 ?_
  refine x_iadd C.1 dL_law_377 ?_
  refine x_sld C Z (x := i + 2) ⟨by omega, by omega⟩ dL_law_378 ?_
  refine x_callA (As := [.int (iI (sv xs (i + 1))), .int (iI (sv xs (i + 2)))]) (rest := [.int (iI r.1)]) (q0 := 0) C.1 Z (k_X7_letter l g 1000 (ad 13) v w t u d z (sv xs (i + 1)) (sv xs (i + 2)) r7 e2) gL_law_X7_letter yk_X7_letter ⟨Nat.le_of_ble_eq_true rfl, Nat.le_of_ble_eq_true rfl⟩ rfl rfl ⟨Nat.le_of_ble_eq_true rfl, Nat.le_of_ble_eq_true rfl⟩ hl.1 rfl (Nat.le_of_ble_eq_true rfl) rfl dL_law_379 (fun H locs Z => ?_)
  have Z := Z.perm List.perm_append_comm
  refine lv_icmp_eq (tgt := 834) C.1.1 C.1.2.1 dL_law_382 (by decide) (fun _ => kk H locs ?_) (fun hne => absurd (congrArg iI q.1) hne)
  exact ⟨sF, sH, sP, r.2, sC, sK, sB, sQ, sU, sV, sS, sR, v, w, r7.2, u, d, z, ⟨h1, h2, q.2, h4, h5, h6, h7⟩, Z⟩
set_option maxHeartbeats 4000000 in
set_option maxRecDepth 100000 in
theorem lc_say (hi : 0 ≤ i ∧ i + 3 ≤ (L : Int)) (C : xLw p s m args c g A b L xs) (I : xI g A s ad H locs) (hl : lv_has ls 4 [(3, .int (iI i)), (2, .ref (ad 13 0)), (1, .ref (ad 0 0)), (0, .ref b)]) (kk : ∀ (H1 : Heap) (locs1 : List Loc), xI g A s ad H1 locs1 → W p l e room_1 s m args below meth c H1 locs1 131 10637 Q (F0 m 834 ls [])) : W p l e room_1 s m args below meth c H locs 131 10637 Q (F0 m 387 ls []) := by
  obtain ⟨sF, sH, sP, sT, sC, sK, sB, sQ, sU, sV, sS, sR, v, w, t, u, d, z, hR, Z⟩ := I
  have hR0 := hR
  obtain ⟨h1, h2, h3, h4, h5, h6, h7⟩ := hR
  obtain ⟨x0, x1, x2, e1, e2, k0⟩ := s_say h2 (sv_in xs (i + 1))
  refine lv_aload_n C.1.1 C.1.2.1 dL_law_387 rfl (lv_at hl 2 rfl) ?_
  refine lv_aload_n C.1.1 C.1.2.1 dL_law_388 rfl (lv_at hl 3 rfl) ?_
  refine lv_iload_n C.1.1 C.1.2.1 dL_law_389 rfl (lv_at hl 0 rfl) ?_
  refine x_iconst C.1 dL_law_390 ?_
  refine x_iadd C.1 dL_law_391 ?_
  refine x_sld C Z (x := i + 1) ⟨by omega, by omega⟩ dL_law_392 ?_
  refine x_callA (As := [.int (iI (sv xs (i + 1)))]) (rest := []) (q0 := 0) (pl := wM g (ad 13) v w t u d z) C.1 Z (k_X6_say l g 1000 (ad 0) (ad 1) (ad 2) (ad 3) (ad 4) (ad 5) (ad 6) (ad 7) (ad 8) (ad 9) (ad 10) (ad 11) (ad 12) sF sH sP sT sC sK sB sQ sU sV sS sR (sv xs (i + 1)) (x0, x1) e1) gL_law_X6_say yk_X6_say ⟨Nat.le_of_ble_eq_true rfl, Nat.le_of_ble_eq_true rfl⟩ rfl rfl ⟨Nat.le_of_ble_eq_true rfl, Nat.le_of_ble_eq_true rfl⟩ hl.1 rfl (Nat.le_of_ble_eq_true rfl) rfl dL_law_393 (fun H locs Z => ?_)
  have Z := Z.perm List.perm_append_comm
  refine lv_aload_n C.1.1 C.1.2.1 dL_law_396 rfl (lv_at hl 1 rfl) ?_
  refine lv_aload_n C.1.1 C.1.2.1 dL_law_397 rfl (lv_at hl 3 rfl) ?_
  refine lv_iload_n C.1.1 C.1.2.1 dL_law_398 rfl (lv_at hl 0 rfl) ?_
  refine x_iconst C.1 dL_law_399 ?_
  refine x_iadd C.1 dL_law_400 ?_
  refine x_sld C Z (x := i + 1) ⟨by omega, by omega⟩ dL_law_401 ?_
  refine x_callA (As := [.int (iI (sv xs (i + 1)))]) (rest := [.int (iI (x0, x1).1)]) (q0 := 0) C.1 Z (k_X7_say l g 1000 (ad 13) v w t u d z (sv xs (i + 1)) (x0, x2) e2) gL_law_X7_say yk_X7_say ⟨Nat.le_of_ble_eq_true rfl, Nat.le_of_ble_eq_true rfl⟩ rfl rfl ⟨Nat.le_of_ble_eq_true rfl, Nat.le_of_ble_eq_true rfl⟩ hl.1 rfl (Nat.le_of_ble_eq_true rfl) rfl dL_law_402 (fun H locs Z => ?_)
  have Z := Z.perm List.perm_append_comm
  refine lv_icmp_eq (tgt := 834) C.1.1 C.1.2.1 dL_law_405 (by decide) (fun _ => kk H locs ?_) (fun hne => absurd rfl hne)
  exact ⟨sF, sH, (x0, x1).2, sT, sC, sK, sB, sQ, sU, sV, sS, sR, v, (x0, x2).2, t, u, d, z, ⟨h1, k0, h3, h4, h5, h6, h7⟩, Z⟩
set_option maxHeartbeats 4000000 in
set_option maxRecDepth 100000 in
theorem lc_wipe (hi : 0 ≤ i ∧ i + 3 ≤ (L : Int)) (C : xLw p s m args c g A b L xs) (I : xI g A s ad H locs) (hl : lv_has ls 4 [(3, .int (iI i)), (2, .ref (ad 13 0)), (1, .ref (ad 0 0)), (0, .ref b)]) (kk : ∀ (H1 : Heap) (locs1 : List Loc), xI g A s ad H1 locs1 → W p l e room_1 s m args below meth c H1 locs1 131 10637 Q (F0 m 834 ls [])) : W p l e room_1 s m args below meth c H locs 131 10637 Q (F0 m 410 ls []) := by
  obtain ⟨sF, sH, sP, sT, sC, sK, sB, sQ, sU, sV, sS, sR, v, w, t, u, d, z, hR, Z⟩ := I
  have hR0 := hR
  obtain ⟨h1, h2, h3, h4, h5, h6, h7⟩ := hR
  obtain ⟨x0, x1, x2, e1, e2, k0⟩ := s_wipe h2
  refine lv_aload_n C.1.1 C.1.2.1 dL_law_410 rfl (lv_at hl 2 rfl) ?_
  refine x_callA (As := []) (rest := []) (q0 := 0) (pl := wM g (ad 13) v w t u d z) C.1 Z (k_X6_wipe l g 1000 (ad 0) (ad 1) (ad 2) (ad 3) (ad 4) (ad 5) (ad 6) (ad 7) (ad 8) (ad 9) (ad 10) (ad 11) (ad 12) sF sH sP sT sC sK sB sQ sU sV sS sR (x0, x1) e1) gL_law_X6_wipe yk_X6_wipe ⟨Nat.le_of_ble_eq_true rfl, Nat.le_of_ble_eq_true rfl⟩ rfl rfl ⟨Nat.le_of_ble_eq_true rfl, Nat.le_of_ble_eq_true rfl⟩ hl.1 rfl (Nat.le_of_ble_eq_true rfl) rfl dL_law_411 (fun H locs Z => ?_)
  have Z := Z.perm List.perm_append_comm
  refine lv_aload_n C.1.1 C.1.2.1 dL_law_414 rfl (lv_at hl 1 rfl) ?_
  refine x_callA (As := []) (rest := [.int (iI (x0, x1).1)]) (q0 := 0) C.1 Z (k_X7_wipe l g 1000 (ad 13) v w t u d z (x0, x2) e2) gL_law_X7_wipe yk_X7_wipe ⟨Nat.le_of_ble_eq_true rfl, Nat.le_of_ble_eq_true rfl⟩ rfl rfl ⟨Nat.le_of_ble_eq_true rfl, Nat.le_of_ble_eq_true rfl⟩ hl.1 rfl (Nat.le_of_ble_eq_true rfl) rfl dL_law_415 (fun H locs Z => ?_)
  have Z := Z.perm List.perm_append_comm
  refine lv_icmp_eq (tgt := 834) C.1.1 C.1.2.1 dL_law_418 (by decide) (fun _ => kk H locs ?_) (fun hne => absurd rfl hne)
  exact ⟨sF, sH, (x0, x1).2, sT, sC, sK, sB, sQ, sU, sV, sS, sR, v, (x0, x2).2, t, u, d, z, ⟨h1, k0, h3, h4, h5, h6, h7⟩, Z⟩
set_option maxHeartbeats 4000000 in
set_option maxRecDepth 100000 in
theorem lc_pad (hi : 0 ≤ i ∧ i + 3 ≤ (L : Int)) (C : xLw p s m args c g A b L xs) (I : xI g A s ad H locs) (hl : lv_has ls 4 [(3, .int (iI i)), (2, .ref (ad 13 0)), (1, .ref (ad 0 0)), (0, .ref b)]) (kk : ∀ (H1 : Heap) (locs1 : List Loc), xI g A s ad H1 locs1 → W p l e room_1 s m args below meth c H1 locs1 131 10637 Q (F0 m 834 ls [])) : W p l e room_1 s m args below meth c H locs 131 10637 Q (F0 m 423 ls []) := by
  obtain ⟨sF, sH, sP, sT, sC, sK, sB, sQ, sU, sV, sS, sR, v, w, t, u, d, z, hR, Z⟩ := I
  have hR0 := hR
  obtain ⟨h1, h2, h3, h4, h5, h6, h7⟩ := hR
  obtain ⟨x0, e1, e2⟩ := s_padq h2 (sv_in xs (i + 1))
  refine lv_aload_n C.1.1 C.1.2.1 dL_law_423 rfl (lv_at hl 2 rfl) ?_
  refine lv_aload_n C.1.1 C.1.2.1 dL_law_424 rfl (lv_at hl 3 rfl) ?_
  refine lv_iload_n C.1.1 C.1.2.1 dL_law_425 rfl (lv_at hl 0 rfl) ?_
  refine x_iconst C.1 dL_law_426 ?_
  refine x_iadd C.1 dL_law_427 ?_
  refine x_sld C Z (x := i + 1) ⟨by omega, by omega⟩ dL_law_428 ?_
  refine x_callA (As := [.int (iI (sv xs (i + 1)))]) (rest := []) (q0 := 0) (pl := wM g (ad 13) v w t u d z) C.1 Z (k_X6_pad l g 1000 (ad 0) (ad 1) (ad 2) (ad 3) (ad 4) (ad 5) (ad 6) (ad 7) (ad 8) (ad 9) (ad 10) (ad 11) (ad 12) sF sH sP sT sC sK sB sQ sU sV sS sR (sv xs (i + 1)) x0 e1) gL_law_X6_pad yk_X6_pad ⟨Nat.le_of_ble_eq_true rfl, Nat.le_of_ble_eq_true rfl⟩ rfl rfl ⟨Nat.le_of_ble_eq_true rfl, Nat.le_of_ble_eq_true rfl⟩ hl.1 rfl (Nat.le_of_ble_eq_true rfl) rfl dL_law_429 (fun H locs Z => ?_)
  have Z := Z.perm List.perm_append_comm
  refine lv_aload_n C.1.1 C.1.2.1 dL_law_432 rfl (lv_at hl 1 rfl) ?_
  refine lv_aload_n C.1.1 C.1.2.1 dL_law_433 rfl (lv_at hl 3 rfl) ?_
  refine lv_iload_n C.1.1 C.1.2.1 dL_law_434 rfl (lv_at hl 0 rfl) ?_
  refine x_iconst C.1 dL_law_435 ?_
  refine x_iadd C.1 dL_law_436 ?_
  refine x_sld C Z (x := i + 1) ⟨by omega, by omega⟩ dL_law_437 ?_
  refine x_callA (As := [.int (iI (sv xs (i + 1)))]) (rest := [.int (iI x0)]) (q0 := 0) C.1 Z (k_X7_pad l g 1000 (ad 13) v w t u d z (sv xs (i + 1)) x0 e2) gL_law_X7_pad yk_X7_pad ⟨Nat.le_of_ble_eq_true rfl, Nat.le_of_ble_eq_true rfl⟩ rfl rfl ⟨Nat.le_of_ble_eq_true rfl, Nat.le_of_ble_eq_true rfl⟩ hl.1 rfl (Nat.le_of_ble_eq_true rfl) rfl dL_law_438 (fun H locs Z => ?_)
  have Z := Z.perm List.perm_append_comm
  refine lv_icmp_eq (tgt := 834) C.1.1 C.1.2.1 dL_law_441 (by decide) (fun _ => kk H locs ?_) (fun hne => absurd rfl hne)
  exact ⟨sF, sH, sP, sT, sC, sK, sB, sQ, sU, sV, sS, sR, v, w, t, u, d, z, hR0, Z⟩
set_option maxHeartbeats 4000000 in
set_option maxRecDepth 100000 in
theorem lc_fault (hi : 0 ≤ i ∧ i + 3 ≤ (L : Int)) (C : xLw p s m args c g A b L xs) (I : xI g A s ad H locs) (hl : lv_has ls 4 [(3, .int (iI i)), (2, .ref (ad 13 0)), (1, .ref (ad 0 0)), (0, .ref b)]) (kk : ∀ (H1 : Heap) (locs1 : List Loc), xI g A s ad H1 locs1 → W p l e room_1 s m args below meth c H1 locs1 131 10637 Q (F0 m 834 ls [])) : W p l e room_1 s m args below meth c H locs 131 10637 Q (F0 m 446 ls []) := by
  obtain ⟨sF, sH, sP, sT, sC, sK, sB, sQ, sU, sV, sS, sR, v, w, t, u, d, z, hR, Z⟩ := I
  have hR0 := hR
  obtain ⟨h1, h2, h3, h4, h5, h6, h7⟩ := hR
  obtain ⟨x0, e1, e2⟩ := s_fault (Nat.le_refl 1000) h2 (sv_in xs (i + 1))
  refine lv_aload_n C.1.1 C.1.2.1 dL_law_446 rfl (lv_at hl 2 rfl) ?_
  refine lv_aload_n C.1.1 C.1.2.1 dL_law_447 rfl (lv_at hl 3 rfl) ?_
  refine lv_iload_n C.1.1 C.1.2.1 dL_law_448 rfl (lv_at hl 0 rfl) ?_
  refine x_iconst C.1 dL_law_449 ?_
  refine x_iadd C.1 dL_law_450 ?_
  refine x_sld C Z (x := i + 1) ⟨by omega, by omega⟩ dL_law_451 ?_
  refine x_callA (As := [.int (iI (sv xs (i + 1)))]) (rest := []) (q0 := 0) (pl := wM g (ad 13) v w t u d z) C.1 Z (k_X6_fault l g 1000 (ad 0) (ad 1) (ad 2) (ad 3) (ad 4) (ad 5) (ad 6) (ad 7) (ad 8) (ad 9) (ad 10) (ad 11) (ad 12) sF sH sP sT sC sK sB sQ sU sV sS sR (sv xs (i + 1)) x0 e1) gL_law_X6_fault yk_X6_fault ⟨Nat.le_of_ble_eq_true rfl, Nat.le_of_ble_eq_true rfl⟩ rfl rfl ⟨Nat.le_of_ble_eq_true rfl, Nat.le_of_ble_eq_true rfl⟩ hl.1 rfl (Nat.le_of_ble_eq_true rfl) rfl dL_law_452 (fun H locs Z => ?_)
  have Z := Z.perm List.perm_append_comm
  refine lv_aload_n C.1.1 C.1.2.1 dL_law_455 rfl (lv_at hl 1 rfl) ?_
  refine lv_aload_n C.1.1 C.1.2.1 dL_law_456 rfl (lv_at hl 3 rfl) ?_
  refine lv_iload_n C.1.1 C.1.2.1 dL_law_457 rfl (lv_at hl 0 rfl) ?_
  refine x_iconst C.1 dL_law_458 ?_
  refine x_iadd C.1 dL_law_459 ?_
  refine x_sld C Z (x := i + 1) ⟨by omega, by omega⟩ dL_law_460 ?_
  refine x_callA (As := [.int (iI (sv xs (i + 1)))]) (rest := [.int (iI x0)]) (q0 := 0) C.1 Z (k_X7_fault l g 1000 (ad 13) v w t u d z (sv xs (i + 1)) x0 e2) gL_law_X7_fault yk_X7_fault ⟨Nat.le_of_ble_eq_true rfl, Nat.le_of_ble_eq_true rfl⟩ rfl rfl ⟨Nat.le_of_ble_eq_true rfl, Nat.le_of_ble_eq_true rfl⟩ hl.1 rfl (Nat.le_of_ble_eq_true rfl) rfl dL_law_461 (fun H locs Z => ?_)
  have Z := Z.perm List.perm_append_comm
  refine lv_icmp_eq (tgt := 834) C.1.1 C.1.2.1 dL_law_464 (by decide) (fun _ => kk H locs ?_) (fun hne => absurd rfl hne)
  exact ⟨sF, sH, sP, sT, sC, sK, sB, sQ, sU, sV, sS, sR, v, w, t, u, d, z, hR0, Z⟩
set_option maxHeartbeats 4000000 in
set_option maxRecDepth 100000 in
theorem lc_occurs (hi : 0 ≤ i ∧ i + 3 ≤ (L : Int)) (C : xLw p s m args c g A b L xs) (I : xI g A s ad H locs) (hl : lv_has ls 4 [(3, .int (iI i)), (2, .ref (ad 13 0)), (1, .ref (ad 0 0)), (0, .ref b)]) (kk : ∀ (H1 : Heap) (locs1 : List Loc), xI g A s ad H1 locs1 → W p l e room_1 s m args below meth c H1 locs1 131 10637 Q (F0 m 834 ls [])) : W p l e room_1 s m args below meth c H locs 131 10637 Q (F0 m 469 ls []) := by
  obtain ⟨sF, sH, sP, sT, sC, sK, sB, sQ, sU, sV, sS, sR, v, w, t, u, d, z, hR, Z⟩ := I
  have hR0 := hR
  obtain ⟨h1, h2, h3, h4, h5, h6, h7⟩ := hR
  obtain ⟨r, r7, e1, e2, q⟩ : Sim (p_X6_occurs 1000 sF sH sP sT sC sK sQ (sv xs (i + 1))) (p_X7_occurs 1000 v w t d (sv xs (i + 1))) _ := s_occurs (Nat.le_refl 1000) h1 h2 h3 h4 (sv_in xs (i + 1))
  refine lv_aload_n C.1.1 C.1.2.1 dL_law_469 rfl (lv_at hl 2 rfl) ?_
  refine lv_aload_n C.1.1 C.1.2.1 dL_law_470 rfl (lv_at hl 3 rfl) ?_
  refine lv_iload_n C.1.1 C.1.2.1 dL_law_471 rfl (lv_at hl 0 rfl) ?_
  refine x_iconst C.1 dL_law_472 ?_
  refine x_iadd C.1 dL_law_473 ?_
  refine x_sld C Z (x := i + 1) ⟨by omega, by omega⟩ dL_law_474 ?_
  refine x_callA (As := [.int (iI (sv xs (i + 1)))]) (rest := []) (q0 := 0) (pl := wM g (ad 13) v w t u d z) C.1 Z (k_X6_occurs l g 1000 (ad 0) (ad 1) (ad 2) (ad 3) (ad 4) (ad 5) (ad 6) (ad 7) (ad 8) (ad 9) (ad 10) (ad 11) (ad 12) sF sH sP sT sC sK sB sQ sU sV sS sR (sv xs (i + 1)) r e1) gL_law_X6_occurs yk_X6_occurs ⟨Nat.le_of_ble_eq_true rfl, Nat.le_of_ble_eq_true rfl⟩ rfl rfl ⟨Nat.le_of_ble_eq_true rfl, Nat.le_of_ble_eq_true rfl⟩ hl.1 rfl (Nat.le_of_ble_eq_true rfl) rfl dL_law_475 (fun H locs Z => ?_)
  have Z := Z.perm List.perm_append_comm
  refine lv_aload_n C.1.1 C.1.2.1 dL_law_478 rfl (lv_at hl 1 rfl) ?_
  refine lv_aload_n C.1.1 C.1.2.1 dL_law_479 rfl (lv_at hl 3 rfl) ?_
  refine lv_iload_n C.1.1 C.1.2.1 dL_law_480 rfl (lv_at hl 0 rfl) ?_
  refine x_iconst C.1 dL_law_481 ?_
  refine x_iadd C.1 dL_law_482 ?_
  refine x_sld C Z (x := i + 1) ⟨by omega, by omega⟩ dL_law_483 ?_
  refine x_callA (As := [.int (iI (sv xs (i + 1)))]) (rest := [.int (iI r.1)]) (q0 := 0) C.1 Z (k_X7_occurs l g 1000 (ad 13) v w t u d z (sv xs (i + 1)) r7 e2) gL_law_X7_occurs yk_X7_occurs ⟨Nat.le_of_ble_eq_true rfl, Nat.le_of_ble_eq_true rfl⟩ rfl rfl ⟨Nat.le_of_ble_eq_true rfl, Nat.le_of_ble_eq_true rfl⟩ hl.1 rfl (Nat.le_of_ble_eq_true rfl) rfl dL_law_484 (fun H locs Z => ?_)
  have Z := Z.perm List.perm_append_comm
  refine lv_icmp_eq (tgt := 834) C.1.1 C.1.2.1 dL_law_487 (by decide) (fun _ => kk H locs ?_) (fun hne => absurd (congrArg iI q.1) hne)
  exact ⟨sF, sH, sP, r.2.1, r.2.2.1, r.2.2.2.1, sB, r.2.2.2.2, sU, sV, sS, sR, v, w, r7.2.1, u, r7.2.2, z, ⟨h1, h2, q.2.1, q.2.2, h5, h6, h7⟩, Z⟩
end LWC
