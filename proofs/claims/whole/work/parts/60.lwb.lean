section LWC
variable {p : Program} {l : Launch} {e : Env} {s : State} {m : MethodId} {args : Array Value} {below : List Frame} {meth : Method} {c : Code} {H : Heap} {locs : List Loc} {Q : State → Prop} {ls : Array Slot} {g : xG} {A : Nat → Prop} {ad : Nat → Nat → Nat} {b L : Nat} {xs : Nat → Int32} {i : Int}
set_option maxHeartbeats 4000000 in
set_option maxRecDepth 100000 in
theorem lc_begin (hi : 0 ≤ i ∧ i + 3 ≤ (L : Int)) (C : xLw p s m args c g A b L xs) (I : xI g A s ad H locs) (hl : lv_has ls 4 [(3, .int (iI i)), (2, .ref (ad 13 0)), (1, .ref (ad 0 0)), (0, .ref b)]) (kk : ∀ (H1 : Heap) (locs1 : List Loc), xI g A s ad H1 locs1 → W p l e room_1 s m args below meth c H1 locs1 131 10637 Q (F0 m 834 ls [])) : W p l e room_1 s m args below meth c H locs 131 10637 Q (F0 m 160 ls []) := by
  obtain ⟨sF, sH, sP, sT, sC, sK, sB, sQ, sU, sV, sS, sR, v, w, t, u, d, z, hR, Z⟩ := I
  have hR0 := hR
  obtain ⟨h1, h2, h3, h4, h5, h6, h7⟩ := hR
  obtain ⟨x0, x1, x2, x3, e1, e2, k0, k1⟩ := s_begin h1
  refine lv_aload_n C.1.1 C.1.2.1 dL_law_160 rfl (lv_at hl 2 rfl) ?_
  refine x_callA (As := []) (rest := []) (q0 := 0) (pl := wM g (ad 13) v w t u d z) C.1 Z (k_X6_begin l g 1000 (ad 0) (ad 1) (ad 2) (ad 3) (ad 4) (ad 5) (ad 6) (ad 7) (ad 8) (ad 9) (ad 10) (ad 11) (ad 12) sF sH sP sT sC sK sB sQ sU sV sS sR (x0, x3, x1) e1) gL_law_X6_begin yk_X6_begin ⟨Nat.le_of_ble_eq_true rfl, Nat.le_of_ble_eq_true rfl⟩ rfl rfl ⟨Nat.le_of_ble_eq_true rfl, Nat.le_of_ble_eq_true rfl⟩ hl.1 rfl (Nat.le_of_ble_eq_true rfl) rfl dL_law_161 (fun H locs Z => ?_)
  have Z := Z.perm List.perm_append_comm
  refine lv_aload_n C.1.1 C.1.2.1 dL_law_164 rfl (lv_at hl 1 rfl) ?_
  refine x_callA (As := []) (rest := [.int (iI (x0, x3, x1).1)]) (q0 := 0) C.1 Z (k_X7_begin l g 1000 (ad 13) v w t u d z (x0, x2) e2) gL_law_X7_begin yk_X7_begin ⟨Nat.le_of_ble_eq_true rfl, Nat.le_of_ble_eq_true rfl⟩ rfl rfl ⟨Nat.le_of_ble_eq_true rfl, Nat.le_of_ble_eq_true rfl⟩ hl.1 rfl (Nat.le_of_ble_eq_true rfl) rfl dL_law_165 (fun H locs Z => ?_)
  have Z := Z.perm List.perm_append_comm
  refine lv_icmp_eq (tgt := 834) C.1.1 C.1.2.1 dL_law_168 (by decide) (fun _ => kk H locs ?_) (fun hne => absurd rfl hne)
  exact ⟨(x0, x3, x1).2.1, (x0, x3, x1).2.2, sP, sT, sC, sK, sB, sQ, sU, sV, sS, sR, (x0, x2).2, w, t, u, d, z, Rel_ext hR0 k0 k1 h2, Z⟩
set_option maxHeartbeats 4000000 in
set_option maxRecDepth 100000 in
theorem lc_append (hi : 0 ≤ i ∧ i + 3 ≤ (L : Int)) (C : xLw p s m args c g A b L xs) (I : xI g A s ad H locs) (hl : lv_has ls 4 [(3, .int (iI i)), (2, .ref (ad 13 0)), (1, .ref (ad 0 0)), (0, .ref b)]) (kk : ∀ (H1 : Heap) (locs1 : List Loc), xI g A s ad H1 locs1 → W p l e room_1 s m args below meth c H1 locs1 131 10637 Q (F0 m 834 ls [])) : W p l e room_1 s m args below meth c H locs 131 10637 Q (F0 m 173 ls []) := by
  obtain ⟨sF, sH, sP, sT, sC, sK, sB, sQ, sU, sV, sS, sR, v, w, t, u, d, z, hR, Z⟩ := I
  have hR0 := hR
  obtain ⟨h1, h2, h3, h4, h5, h6, h7⟩ := hR
  obtain ⟨x0, x1, x2, x3, e1, e2, k0, k1⟩ := s_append h1 (sv_in xs (i + 1))
  refine lv_aload_n C.1.1 C.1.2.1 dL_law_173 rfl (lv_at hl 2 rfl) ?_
  refine lv_aload_n C.1.1 C.1.2.1 dL_law_174 rfl (lv_at hl 3 rfl) ?_
  refine lv_iload_n C.1.1 C.1.2.1 dL_law_175 rfl (lv_at hl 0 rfl) ?_
  refine x_iconst C.1 dL_law_176 ?_
  refine x_iadd C.1 dL_law_177 ?_
  refine x_sld C Z (x := i + 1) ⟨by omega, by omega⟩ dL_law_178 ?_
  refine x_callA (As := [.int (iI (sv xs (i + 1)))]) (rest := []) (q0 := 0) (pl := wM g (ad 13) v w t u d z) C.1 Z (k_X6_append l g 1000 (ad 0) (ad 1) (ad 2) (ad 3) (ad 4) (ad 5) (ad 6) (ad 7) (ad 8) (ad 9) (ad 10) (ad 11) (ad 12) sF sH sP sT sC sK sB sQ sU sV sS sR (sv xs (i + 1)) (x0, x3, x1) e1) gL_law_X6_append yk_X6_append ⟨Nat.le_of_ble_eq_true rfl, Nat.le_of_ble_eq_true rfl⟩ rfl rfl ⟨Nat.le_of_ble_eq_true rfl, Nat.le_of_ble_eq_true rfl⟩ hl.1 rfl (Nat.le_of_ble_eq_true rfl) rfl dL_law_179 (fun H locs Z => ?_)
  have Z := Z.perm List.perm_append_comm
  refine lv_aload_n C.1.1 C.1.2.1 dL_law_182 rfl (lv_at hl 1 rfl) ?_
  refine lv_aload_n C.1.1 C.1.2.1 dL_law_183 rfl (lv_at hl 3 rfl) ?_
  refine lv_iload_n C.1.1 C.1.2.1 dL_law_184 rfl (lv_at hl 0 rfl) ?_
  refine x_iconst C.1 dL_law_185 ?_
  refine x_iadd C.1 dL_law_186 ?_
  refine x_sld C Z (x := i + 1) ⟨by omega, by omega⟩ dL_law_187 ?_
  refine x_callA (As := [.int (iI (sv xs (i + 1)))]) (rest := [.int (iI (x0, x3, x1).1)]) (q0 := 0) C.1 Z (k_X7_append l g 1000 (ad 13) v w t u d z (sv xs (i + 1)) (x0, x2) e2) gL_law_X7_append yk_X7_append ⟨Nat.le_of_ble_eq_true rfl, Nat.le_of_ble_eq_true rfl⟩ rfl rfl ⟨Nat.le_of_ble_eq_true rfl, Nat.le_of_ble_eq_true rfl⟩ hl.1 rfl (Nat.le_of_ble_eq_true rfl) rfl dL_law_188 (fun H locs Z => ?_)
  have Z := Z.perm List.perm_append_comm
  refine lv_icmp_eq (tgt := 834) C.1.1 C.1.2.1 dL_law_191 (by decide) (fun _ => kk H locs ?_) (fun hne => absurd rfl hne)
  exact ⟨(x0, x3, x1).2.1, (x0, x3, x1).2.2, sP, sT, sC, sK, sB, sQ, sU, sV, sS, sR, (x0, x2).2, w, t, u, d, z, Rel_ext hR0 k0 k1 h2, Z⟩
set_option maxHeartbeats 4000000 in
set_option maxRecDepth 100000 in
theorem lc_load (hi : 0 ≤ i ∧ i + 3 ≤ (L : Int)) (C : xLw p s m args c g A b L xs) (I : xI g A s ad H locs) (hl : lv_has ls 4 [(3, .int (iI i)), (2, .ref (ad 13 0)), (1, .ref (ad 0 0)), (0, .ref b)]) (kk : ∀ (H1 : Heap) (locs1 : List Loc), xI g A s ad H1 locs1 → W p l e room_1 s m args below meth c H1 locs1 131 10637 Q (F0 m 834 ls [])) : W p l e room_1 s m args below meth c H locs 131 10637 Q (F0 m 196 ls []) := by
  obtain ⟨sF, sH, sP, sT, sC, sK, sB, sQ, sU, sV, sS, sR, v, w, t, u, d, z, hR, Z⟩ := I
  have hR0 := hR
  obtain ⟨h1, h2, h3, h4, h5, h6, h7⟩ := hR
  obtain ⟨x0, x1, x2, x3, x4, x5, e1, e2, k0, k1, k2⟩ := s_load (Nat.le_refl 1000) h1 h2
  refine lv_aload_n C.1.1 C.1.2.1 dL_law_196 rfl (lv_at hl 2 rfl) ?_
  refine x_callA (As := []) (rest := []) (q0 := 0) (pl := wM g (ad 13) v w t u d z) C.1 Z (k_X6_load l g 1000 (ad 0) (ad 1) (ad 2) (ad 3) (ad 4) (ad 5) (ad 6) (ad 7) (ad 8) (ad 9) (ad 10) (ad 11) (ad 12) sF sH sP sT sC sK sB sQ sU sV sS sR (x0, x3, x1, x4) e1) gL_law_X6_load yk_X6_load ⟨Nat.le_of_ble_eq_true rfl, Nat.le_of_ble_eq_true rfl⟩ rfl rfl ⟨Nat.le_of_ble_eq_true rfl, Nat.le_of_ble_eq_true rfl⟩ hl.1 rfl (Nat.le_of_ble_eq_true rfl) rfl dL_law_197 (fun H locs Z => ?_)
  have Z := Z.perm List.perm_append_comm
  refine lv_aload_n C.1.1 C.1.2.1 dL_law_200 rfl (lv_at hl 1 rfl) ?_
  refine x_callA (As := []) (rest := [.int (iI (x0, x3, x1, x4).1)]) (q0 := 0) C.1 Z (k_X7_load l g 1000 (ad 13) v w t u d z (x0, x2, x5) e2) gL_law_X7_load yk_X7_load ⟨Nat.le_of_ble_eq_true rfl, Nat.le_of_ble_eq_true rfl⟩ rfl rfl ⟨Nat.le_of_ble_eq_true rfl, Nat.le_of_ble_eq_true rfl⟩ hl.1 rfl (Nat.le_of_ble_eq_true rfl) rfl dL_law_201 (fun H locs Z => ?_)
  have Z := Z.perm List.perm_append_comm
  refine lv_icmp_eq (tgt := 834) C.1.1 C.1.2.1 dL_law_204 (by decide) (fun _ => kk H locs ?_) (fun hne => absurd rfl hne)
  exact ⟨(x0, x3, x1, x4).2.1, (x0, x3, x1, x4).2.2.1, (x0, x3, x1, x4).2.2.2, sT, sC, sK, sB, sQ, sU, sV, sS, sR, (x0, x2, x5).2.1, (x0, x2, x5).2.2, t, u, d, z, Rel_ext hR0 k0 k2 k1, Z⟩
set_option maxHeartbeats 4000000 in
set_option maxRecDepth 100000 in
theorem lc_go (hi : 0 ≤ i ∧ i + 3 ≤ (L : Int)) (C : xLw p s m args c g A b L xs) (I : xI g A s ad H locs) (hl : lv_has ls 4 [(3, .int (iI i)), (2, .ref (ad 13 0)), (1, .ref (ad 0 0)), (0, .ref b)]) (kk : ∀ (H1 : Heap) (locs1 : List Loc), xI g A s ad H1 locs1 → W p l e room_1 s m args below meth c H1 locs1 131 10637 Q (F0 m 834 ls [])) : W p l e room_1 s m args below meth c H locs 131 10637 Q (F0 m 209 ls []) := by
  obtain ⟨sF, sH, sP, sT, sC, sK, sB, sQ, sU, sV, sS, sR, v, w, t, u, d, z, hR, Z⟩ := I
  have hR0 := hR
  obtain ⟨h1, h2, h3, h4, h5, h6, h7⟩ := hR
  obtain ⟨x0, x1, x2, e1, e2, k0⟩ := s_go h1 (sv_in xs (i + 1))
  refine lv_aload_n C.1.1 C.1.2.1 dL_law_209 rfl (lv_at hl 2 rfl) ?_
  refine lv_aload_n C.1.1 C.1.2.1 dL_law_210 rfl (lv_at hl 3 rfl) ?_
  refine lv_iload_n C.1.1 C.1.2.1 dL_law_211 rfl (lv_at hl 0 rfl) ?_
  refine x_iconst C.1 dL_law_212 ?_
  refine x_iadd C.1 dL_law_213 ?_
  refine x_sld C Z (x := i + 1) ⟨by omega, by omega⟩ dL_law_214 ?_
  refine x_callA (As := [.int (iI (sv xs (i + 1)))]) (rest := []) (q0 := 0) (pl := wM g (ad 13) v w t u d z) C.1 Z (k_X6_go l g 1000 (ad 0) (ad 1) (ad 2) (ad 3) (ad 4) (ad 5) (ad 6) (ad 7) (ad 8) (ad 9) (ad 10) (ad 11) (ad 12) sF sH sP sT sC sK sB sQ sU sV sS sR (sv xs (i + 1)) (x0, x2) e1) gL_law_X6_go yk_X6_go ⟨Nat.le_of_ble_eq_true rfl, Nat.le_of_ble_eq_true rfl⟩ rfl rfl ⟨Nat.le_of_ble_eq_true rfl, Nat.le_of_ble_eq_true rfl⟩ hl.1 rfl (Nat.le_of_ble_eq_true rfl) rfl dL_law_215 (fun H locs Z => ?_)
  have Z := Z.perm List.perm_append_comm
  refine lv_aload_n C.1.1 C.1.2.1 dL_law_218 rfl (lv_at hl 1 rfl) ?_
  refine lv_aload_n C.1.1 C.1.2.1 dL_law_219 rfl (lv_at hl 3 rfl) ?_
  refine lv_iload_n C.1.1 C.1.2.1 dL_law_220 rfl (lv_at hl 0 rfl) ?_
  refine x_iconst C.1 dL_law_221 ?_
  refine x_iadd C.1 dL_law_222 ?_
  refine x_sld C Z (x := i + 1) ⟨by omega, by omega⟩ dL_law_223 ?_
  refine x_callA (As := [.int (iI (sv xs (i + 1)))]) (rest := [.int (iI (x0, x2).1)]) (q0 := 0) C.1 Z (k_X7_go l g 1000 (ad 13) v w t u d z (sv xs (i + 1)) (x0, x1) e2) gL_law_X7_go yk_X7_go ⟨Nat.le_of_ble_eq_true rfl, Nat.le_of_ble_eq_true rfl⟩ rfl rfl ⟨Nat.le_of_ble_eq_true rfl, Nat.le_of_ble_eq_true rfl⟩ hl.1 rfl (Nat.le_of_ble_eq_true rfl) rfl dL_law_224 (fun H locs Z => ?_)
  have Z := Z.perm List.perm_append_comm
  refine lv_icmp_eq (tgt := 834) C.1.1 C.1.2.1 dL_law_227 (by decide) (fun _ => kk H locs ?_) (fun hne => absurd rfl hne)
  exact ⟨(x0, x2).2, sH, sP, sT, sC, sK, sB, sQ, sU, sV, sS, sR, (x0, x1).2, w, t, u, d, z, ⟨k0, h2, h3, h4, h5, h6, h7⟩, Z⟩
set_option maxHeartbeats 4000000 in
set_option maxRecDepth 100000 in
theorem lc_back (hi : 0 ≤ i ∧ i + 3 ≤ (L : Int)) (C : xLw p s m args c g A b L xs) (I : xI g A s ad H locs) (hl : lv_has ls 4 [(3, .int (iI i)), (2, .ref (ad 13 0)), (1, .ref (ad 0 0)), (0, .ref b)]) (kk : ∀ (H1 : Heap) (locs1 : List Loc), xI g A s ad H1 locs1 → W p l e room_1 s m args below meth c H1 locs1 131 10637 Q (F0 m 834 ls [])) : W p l e room_1 s m args below meth c H locs 131 10637 Q (F0 m 232 ls []) := by
  obtain ⟨sF, sH, sP, sT, sC, sK, sB, sQ, sU, sV, sS, sR, v, w, t, u, d, z, hR, Z⟩ := I
  have hR0 := hR
  obtain ⟨h1, h2, h3, h4, h5, h6, h7⟩ := hR
  obtain ⟨x0, x1, x2, e1, e2, k0⟩ := s_back (Nat.le_refl 1000) h1 (sv_in xs (i + 1))
  refine lv_aload_n C.1.1 C.1.2.1 dL_law_232 rfl (lv_at hl 2 rfl) ?_
  refine lv_aload_n C.1.1 C.1.2.1 dL_law_233 rfl (lv_at hl 3 rfl) ?_
  refine lv_iload_n C.1.1 C.1.2.1 dL_law_234 rfl (lv_at hl 0 rfl) ?_
  refine x_iconst C.1 dL_law_235 ?_
  refine x_iadd C.1 dL_law_236 ?_
  refine x_sld C Z (x := i + 1) ⟨by omega, by omega⟩ dL_law_237 ?_
  refine x_callA (As := [.int (iI (sv xs (i + 1)))]) (rest := []) (q0 := 0) (pl := wM g (ad 13) v w t u d z) C.1 Z (k_X6_back l g 1000 (ad 0) (ad 1) (ad 2) (ad 3) (ad 4) (ad 5) (ad 6) (ad 7) (ad 8) (ad 9) (ad 10) (ad 11) (ad 12) sF sH sP sT sC sK sB sQ sU sV sS sR (sv xs (i + 1)) (x0, x2) e1) gL_law_X6_back yk_X6_back ⟨Nat.le_of_ble_eq_true rfl, Nat.le_of_ble_eq_true rfl⟩ rfl rfl ⟨Nat.le_of_ble_eq_true rfl, Nat.le_of_ble_eq_true rfl⟩ hl.1 rfl (Nat.le_of_ble_eq_true rfl) rfl dL_law_238 (fun H locs Z => ?_)
  have Z := Z.perm List.perm_append_comm
  refine lv_aload_n C.1.1 C.1.2.1 dL_law_241 rfl (lv_at hl 1 rfl) ?_
  refine lv_aload_n C.1.1 C.1.2.1 dL_law_242 rfl (lv_at hl 3 rfl) ?_
  refine lv_iload_n C.1.1 C.1.2.1 dL_law_243 rfl (lv_at hl 0 rfl) ?_
  refine x_iconst C.1 dL_law_244 ?_
  refine x_iadd C.1 dL_law_245 ?_
  refine x_sld C Z (x := i + 1) ⟨by omega, by omega⟩ dL_law_246 ?_
  refine x_callA (As := [.int (iI (sv xs (i + 1)))]) (rest := [.int (iI (x0, x2).1)]) (q0 := 0) C.1 Z (k_X7_back l g 1000 (ad 13) v w t u d z (sv xs (i + 1)) (x0, x1) e2) gL_law_X7_back yk_X7_back ⟨Nat.le_of_ble_eq_true rfl, Nat.le_of_ble_eq_true rfl⟩ rfl rfl ⟨Nat.le_of_ble_eq_true rfl, Nat.le_of_ble_eq_true rfl⟩ hl.1 rfl (Nat.le_of_ble_eq_true rfl) rfl dL_law_247 (fun H locs Z => ?_)
  have Z := Z.perm List.perm_append_comm
  refine lv_icmp_eq (tgt := 834) C.1.1 C.1.2.1 dL_law_250 (by decide) (fun _ => kk H locs ?_) (fun hne => absurd rfl hne)
  exact ⟨(x0, x2).2, sH, sP, sT, sC, sK, sB, sQ, sU, sV, sS, sR, (x0, x1).2, w, t, u, d, z, ⟨k0, h2, h3, h4, h5, h6, h7⟩, Z⟩
set_option maxHeartbeats 4000000 in
set_option maxRecDepth 100000 in
theorem lc_version (hi : 0 ≤ i ∧ i + 3 ≤ (L : Int)) (C : xLw p s m args c g A b L xs) (I : xI g A s ad H locs) (hl : lv_has ls 4 [(3, .int (iI i)), (2, .ref (ad 13 0)), (1, .ref (ad 0 0)), (0, .ref b)]) (kk : ∀ (H1 : Heap) (locs1 : List Loc), xI g A s ad H1 locs1 → W p l e room_1 s m args below meth c H1 locs1 131 10637 Q (F0 m 834 ls [])) : W p l e room_1 s m args below meth c H locs 131 10637 Q (F0 m 255 ls []) := by
  obtain ⟨sF, sH, sP, sT, sC, sK, sB, sQ, sU, sV, sS, sR, v, w, t, u, d, z, hR, Z⟩ := I
  have hR0 := hR
  obtain ⟨h1, h2, h3, h4, h5, h6, h7⟩ := hR
  obtain ⟨r, r7, e1, e2, q⟩ : Sim (p_X6_version 1000 sH sU sV sS sR (sv xs (i + 1)) (sv xs (i + 2))) (p_X7_version 1000 v t u (sv xs (i + 1)) (sv xs (i + 2))) _ := s_version (Nat.le_refl 1000) h1 h6 h7 (sv_in xs (i + 1)) (sv_in xs (i + 2))
  refine lv_aload_n C.1.1 C.1.2.1 dL_law_255 rfl (lv_at hl 2 rfl) ?_
  refine lv_aload_n C.1.1 C.1.2.1 dL_law_256 rfl (lv_at hl 3 rfl) ?_
  refine lv_iload_n C.1.1 C.1.2.1 dL_law_257 rfl (lv_at hl 0 rfl) ?_
  refine x_iconst C.1 dL_law_258 ?_
  refine x_iadd C.1 dL_law_259 ?_
  refine x_sld C Z (x := i + 1) ⟨by omega, by omega⟩ dL_law_260 ?_
  refine lv_aload_n C.1.1 C.1.2.1 dL_law_261 rfl (lv_at hl 3 rfl) ?_
  refine lv_iload_n C.1.1 C.1.2.1 dL_law_262 rfl (lv_at hl 0 rfl) ?_
  refine x_iconst C.1 dL_law_263 ?_
  refine x_iadd C.1 dL_law_264 ?_
  refine x_sld C Z (x := i + 2) ⟨by omega, by omega⟩ dL_law_265 ?_
  refine x_callA (As := [.int (iI (sv xs (i + 1))), .int (iI (sv xs (i + 2)))]) (rest := []) (q0 := 0) (pl := wM g (ad 13) v w t u d z) C.1 Z (k_X6_version l g 1000 (ad 0) (ad 1) (ad 2) (ad 3) (ad 4) (ad 5) (ad 6) (ad 7) (ad 8) (ad 9) (ad 10) (ad 11) (ad 12) sF sH sP sT sC sK sB sQ sU sV sS sR (sv xs (i + 1)) (sv xs (i + 2)) r e1) gL_law_X6_version yk_X6_version ⟨Nat.le_of_ble_eq_true rfl, Nat.le_of_ble_eq_true rfl⟩ rfl rfl ⟨Nat.le_of_ble_eq_true rfl, Nat.le_of_ble_eq_true rfl⟩ hl.1 rfl (Nat.le_of_ble_eq_true rfl) rfl dL_law_266 (fun H locs Z => ?_)
  have Z := Z.perm List.perm_append_comm
  refine lv_aload_n C.1.1 C.1.2.1 dL_law_269 rfl (lv_at hl 1 rfl) ?_
  refine lv_aload_n C.1.1 C.1.2.1 dL_law_270 rfl (lv_at hl 3 rfl) ?_
  refine lv_iload_n C.1.1 C.1.2.1 dL_law_271 rfl (lv_at hl 0 rfl) ?_
  refine x_iconst C.1 dL_law_272 ?_
  refine x_iadd C.1 dL_law_273 ?_
  refine x_sld C Z (x := i + 1) ⟨by omega, by omega⟩ dL_law_274 ?_
  refine lv_aload_n C.1.1 C.1.2.1 dL_law_275 rfl (lv_at hl 3 rfl) ?_
  refine lv_iload_n C.1.1 C.1.2.1 dL_law_276 rfl (lv_at hl 0 rfl) ?_
  refine x_iconst C.1 dL_law_277 ?_
  refine x_iadd C.1 dL_law_278 ?_
  refine x_sld C Z (x := i + 2) ⟨by omega, by omega⟩ dL_law_279 ?_
  refine x_callA (As := [.int (iI (sv xs (i + 1))), .int (iI (sv xs (i + 2)))]) (rest := [.int (iI r.1)]) (q0 := 0) C.1 Z (k_X7_version l g 1000 (ad 13) v w t u d z (sv xs (i + 1)) (sv xs (i + 2)) r7 e2) gL_law_X7_version yk_X7_version ⟨Nat.le_of_ble_eq_true rfl, Nat.le_of_ble_eq_true rfl⟩ rfl rfl ⟨Nat.le_of_ble_eq_true rfl, Nat.le_of_ble_eq_true rfl⟩ hl.1 rfl (Nat.le_of_ble_eq_true rfl) rfl dL_law_280 (fun H locs Z => ?_)
  have Z := Z.perm List.perm_append_comm
  refine lv_icmp_eq (tgt := 834) C.1.1 C.1.2.1 dL_law_283 (by decide) (fun _ => kk H locs ?_) (fun hne => absurd (congrArg iI q.1) hne)
  exact ⟨sF, sH, sP, sT, sC, sK, sB, sQ, r.2.1, r.2.2.1, r.2.2.2.1, r.2.2.2.2, v, w, r7.2.1, r7.2.2, d, z, ⟨h1, h2, h3, h4, h5, q.2.1, q.2.2⟩, Z⟩
set_option maxHeartbeats 4000000 in
set_option maxRecDepth 100000 in
theorem lc_meet (hi : 0 ≤ i ∧ i + 3 ≤ (L : Int)) (C : xLw p s m args c g A b L xs) (I : xI g A s ad H locs) (hl : lv_has ls 4 [(3, .int (iI i)), (2, .ref (ad 13 0)), (1, .ref (ad 0 0)), (0, .ref b)]) (kk : ∀ (H1 : Heap) (locs1 : List Loc), xI g A s ad H1 locs1 → W p l e room_1 s m args below meth c H1 locs1 131 10637 Q (F0 m 834 ls [])) : W p l e room_1 s m args below meth c H locs 131 10637 Q (F0 m 288 ls []) := by
  obtain ⟨sF, sH, sP, sT, sC, sK, sB, sQ, sU, sV, sS, sR, v, w, t, u, d, z, hR, Z⟩ := I
  have hR0 := hR
  obtain ⟨h1, h2, h3, h4, h5, h6, h7⟩ := hR
  obtain ⟨x0, e1, e2⟩ := s_meet (Nat.le_refl 1000) h1.1 h1.2.1 (sv_in xs (i + 1)) (sv_in xs (i + 2))
  refine lv_aload_n C.1.1 C.1.2.1 dL_law_288 rfl (lv_at hl 2 rfl) ?_
  refine lv_aload_n C.1.1 C.1.2.1 dL_law_289 rfl (lv_at hl 3 rfl) ?_
  refine lv_iload_n C.1.1 C.1.2.1 dL_law_290 rfl (lv_at hl 0 rfl) ?_
  refine x_iconst C.1 dL_law_291 ?_
  refine x_iadd C.1 dL_law_292 ?_
  refine x_sld C Z (x := i + 1) ⟨by omega, by omega⟩ dL_law_293 ?_
  refine lv_aload_n C.1.1 C.1.2.1 dL_law_294 rfl (lv_at hl 3 rfl) ?_
  refine lv_iload_n C.1.1 C.1.2.1 dL_law_295 rfl (lv_at hl 0 rfl) ?_
  refine x_iconst C.1 dL_law_296 ?_
  refine x_iadd C.1 dL_law_297 ?_
  refine x_sld C Z (x := i + 2) ⟨by omega, by omega⟩ dL_law_298 ?_
  refine x_callA (As := [.int (iI (sv xs (i + 1))), .int (iI (sv xs (i + 2)))]) (rest := []) (q0 := 0) (pl := wM g (ad 13) v w t u d z) C.1 Z (k_X6_meet l g 1000 (ad 0) (ad 1) (ad 2) (ad 3) (ad 4) (ad 5) (ad 6) (ad 7) (ad 8) (ad 9) (ad 10) (ad 11) (ad 12) sF sH sP sT sC sK sB sQ sU sV sS sR (sv xs (i + 1)) (sv xs (i + 2)) x0 e1) gL_law_X6_meet yk_X6_meet ⟨Nat.le_of_ble_eq_true rfl, Nat.le_of_ble_eq_true rfl⟩ rfl rfl ⟨Nat.le_of_ble_eq_true rfl, Nat.le_of_ble_eq_true rfl⟩ hl.1 rfl (Nat.le_of_ble_eq_true rfl) rfl dL_law_299 (fun H locs Z => ?_)
  have Z := Z.perm List.perm_append_comm
  refine lv_aload_n C.1.1 C.1.2.1 dL_law_302 rfl (lv_at hl 1 rfl) ?_
  refine lv_aload_n C.1.1 C.1.2.1 dL_law_303 rfl (lv_at hl 3 rfl) ?_
  refine lv_iload_n C.1.1 C.1.2.1 dL_law_304 rfl (lv_at hl 0 rfl) ?_
  refine x_iconst C.1 dL_law_305 ?_
  refine x_iadd C.1 dL_law_306 ?_
  refine x_sld C Z (x := i + 1) ⟨by omega, by omega⟩ dL_law_307 ?_
  refine lv_aload_n C.1.1 C.1.2.1 dL_law_308 rfl (lv_at hl 3 rfl) ?_
  refine lv_iload_n C.1.1 C.1.2.1 dL_law_309 rfl (lv_at hl 0 rfl) ?_
  refine x_iconst C.1 dL_law_310 ?_
  refine x_iadd C.1 dL_law_311 ?_
  refine x_sld C Z (x := i + 2) ⟨by omega, by omega⟩ dL_law_312 ?_
  refine x_callA (As := [.int (iI (sv xs (i + 1))), .int (iI (sv xs (i + 2)))]) (rest := [.int (iI x0)]) (q0 := 0) C.1 Z (k_X7_meet l g 1000 (ad 13) v w t u d z (sv xs (i + 1)) (sv xs (i + 2)) x0 e2) gL_law_X7_meet yk_X7_meet ⟨Nat.le_of_ble_eq_true rfl, Nat.le_of_ble_eq_true rfl⟩ rfl rfl ⟨Nat.le_of_ble_eq_true rfl, Nat.le_of_ble_eq_true rfl⟩ hl.1 rfl (Nat.le_of_ble_eq_true rfl) rfl dL_law_313 (fun H locs Z => ?_)
  have Z := Z.perm List.perm_append_comm
  refine lv_icmp_eq (tgt := 834) C.1.1 C.1.2.1 dL_law_316 (by decide) (fun _ => kk H locs ?_) (fun hne => absurd rfl hne)
  exact ⟨sF, sH, sP, sT, sC, sK, sB, sQ, sU, sV, sS, sR, v, w, t, u, d, z, hR0, Z⟩
end LWC
