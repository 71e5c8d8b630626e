section LWF
variable {p : Program} {l : Launch} {e : Env} {s : State} {m : MethodId} {args : Array Value} {below : List Frame} {meth : Method} {c : Code} {H : Heap} {locs : List Loc} {Q : State → Prop} {ls : Array Slot} {g : xG} {A : Nat → Prop} {ad : Nat → Nat → Nat} {b L : Nat} {xs : Nat → Int32} {i : Int}
set_option maxHeartbeats 4000000 in
set_option maxRecDepth 100000 in
theorem law_switch (hi : 0 ≤ i ∧ i + 3 ≤ (L : Int)) {v : Int} (hv : InR v) (C : xLw p s m args c g A b L xs) (I : xI g A s ad H locs) (hl : lv_has ls 4 [(3, .int (iI i)), (2, .ref (ad 13 0)), (1, .ref (ad 0 0)), (0, .ref b)]) (kk : ∀ (H1 : Heap) (locs1 : List Loc), xI g A s ad H1 locs1 → W p l e room_1 s m args below meth c H1 locs1 131 10637 Q (F0 m 834 ls [])) : W p l e room_1 s m args below meth c H locs 131 10637 Q (F0 m 32 ls [.int (iI v)]) := by
  have hc : (v < 0 ∨ 27 < v) ∨ v = 0 ∨ v = 1 ∨ v = 2 ∨ v = 3 ∨ v = 4 ∨ v = 5 ∨ v = 6 ∨ v = 7 ∨ v = 8 ∨ v = 9 ∨ v = 10 ∨ v = 11 ∨ v = 12 ∨ v = 13 ∨ v = 14 ∨ v = 15 ∨ v = 16 ∨ v = 17 ∨ v = 18 ∨ v = 19 ∨ v = 20 ∨ v = 21 ∨ v = 22 ∨ v = 23 ∨ v = 24 ∨ v = 25 ∨ v = 26 ∨ v = 27 := by omega
  rcases hc with hv0 | e0 | e1 | e2 | e3 | e4 | e5 | e6 | e7 | e8 | e9 | e10 | e11 | e12 | e13 | e14 | e15 | e16 | e17 | e18 | e19 | e20 | e21 | e22 | e23 | e24 | e25 | e26 | e27
  · exact x_tout (tgt := 834) C.1 dL_law_32 hv hv0 (by decide) (kk H locs I)
  · exact x_tin (tgt := 160) C.1 dL_law_32 hv e0 (by decide) (by decide) (by rfl) (by decide) (lc_begin hi C I hl kk)
  · exact x_tin (tgt := 173) C.1 dL_law_32 hv e1 (by decide) (by decide) (by rfl) (by decide) (lc_append hi C I hl kk)
  · exact x_tin (tgt := 196) C.1 dL_law_32 hv e2 (by decide) (by decide) (by rfl) (by decide) (lc_load hi C I hl kk)
  · exact x_tin (tgt := 209) C.1 dL_law_32 hv e3 (by decide) (by decide) (by rfl) (by decide) (lc_go hi C I hl kk)
  · exact x_tin (tgt := 232) C.1 dL_law_32 hv e4 (by decide) (by decide) (by rfl) (by decide) (lc_back hi C I hl kk)
  · exact x_tin (tgt := 255) C.1 dL_law_32 hv e5 (by decide) (by decide) (by rfl) (by decide) (lc_version hi C I hl kk)
  · exact x_tin (tgt := 288) C.1 dL_law_32 hv e6 (by decide) (by decide) (by rfl) (by decide) (lc_meet hi C I hl kk)
  · exact x_tin (tgt := 321) C.1 dL_law_32 hv e7 (by decide) (by decide) (by rfl) (by decide) (lc_more hi C I hl kk)
  · exact x_tin (tgt := 354) C.1 dL_law_32 hv e8 (by decide) (by decide) (by rfl) (by decide) (lc_letter hi C I hl kk)
  · exact x_tin (tgt := 387) C.1 dL_law_32 hv e9 (by decide) (by decide) (by rfl) (by decide) (lc_say hi C I hl kk)
  · exact x_tin (tgt := 410) C.1 dL_law_32 hv e10 (by decide) (by decide) (by rfl) (by decide) (lc_wipe hi C I hl kk)
  · exact x_tin (tgt := 423) C.1 dL_law_32 hv e11 (by decide) (by decide) (by rfl) (by decide) (lc_pad hi C I hl kk)
  · exact x_tin (tgt := 446) C.1 dL_law_32 hv e12 (by decide) (by decide) (by rfl) (by decide) (lc_fault hi C I hl kk)
  · exact x_tin (tgt := 469) C.1 dL_law_32 hv e13 (by decide) (by decide) (by rfl) (by decide) (lc_occurs hi C I hl kk)
  · exact x_tin (tgt := 492) C.1 dL_law_32 hv e14 (by decide) (by decide) (by rfl) (by decide) (lc_end hi C I hl kk)
  · exact x_tin (tgt := 515) C.1 dL_law_32 hv e15 (by decide) (by decide) (by rfl) (by decide) (lc_matches hi C I hl kk)
  · exact x_tin (tgt := 538) C.1 dL_law_32 hv e16 (by decide) (by decide) (by rfl) (by decide) (lc_parts hi C I hl kk)
  · exact x_tin (tgt := 551) C.1 dL_law_32 hv e17 (by decide) (by decide) (by rfl) (by decide) (lc_factors hi C I hl kk)
  · exact x_tin (tgt := 584) C.1 dL_law_32 hv e18 (by decide) (by decide) (by rfl) (by decide) (lc_kth hi C I hl kk)
  · exact x_tin (tgt := 617) C.1 dL_law_32 hv e19 (by decide) (by decide) (by rfl) (by decide) (lc_before hi C I hl kk)
  · exact x_tin (tgt := 630) C.1 dL_law_32 hv e20 (by decide) (by decide) (by rfl) (by decide) (lc_group hi C I hl kk)
  · exact x_tin (tgt := 663) C.1 dL_law_32 hv e21 (by decide) (by decide) (by rfl) (by decide) (lc_spell hi C I hl kk)
  · exact x_tin (tgt := 686) C.1 dL_law_32 hv e22 (by decide) (by decide) (by rfl) (by decide) (lc_step hi C I hl kk)
  · exact x_tin (tgt := 719) C.1 dL_law_32 hv e23 (by decide) (by decide) (by rfl) (by decide) (lc_common hi C I hl kk)
  · exact x_tin (tgt := 752) C.1 dL_law_32 hv e24 (by decide) (by decide) (by rfl) (by decide) (lc_unique hi C I hl kk)
  · exact x_tin (tgt := 775) C.1 dL_law_32 hv e25 (by decide) (by decide) (by rfl) (by decide) (lc_absent hi C I hl kk)
  · exact x_tin (tgt := 798) C.1 dL_law_32 hv e26 (by decide) (by decide) (by rfl) (by decide) (lc_minimal hi C I hl kk)
  · exact x_tin (tgt := 811) C.1 dL_law_32 hv e27 (by decide) (by decide) (by rfl) (by decide) (lc_count hi C I hl kk)
set_option maxHeartbeats 4000000 in
set_option maxRecDepth 100000 in
theorem law_loop (C : xLw p s m args c g A b L xs) (hend : ∀ (H : Heap) (locs : List Loc) (ls : Array Slot) (ws : va_W), xSt g A s ws H locs → W p l e room_1 s m args below meth c H locs 131 10637 Q (F0 m 840 ls [])) : ∀ (n : Nat) (i : Int), 0 ≤ i → i ≤ (L : Int) + 3 → ((L : Int) + 3 - i).toNat < n → ∀ (H : Heap) (locs : List Loc) (ls : Array Slot), xI g A s ad H locs → lv_has ls 4 [(3, .int (iI i)), (2, .ref (ad 13 0)), (1, .ref (ad 0 0)), (0, .ref b)] → W p l e room_1 s m args below meth c H locs 131 10637 Q (F0 m 18 ls [])
  | 0, i, _, _, h, _, _, _, _, _ => absurd h (Nat.not_lt_zero _)
  | n + 1, i, h0, h1, hn, H, locs, ls, I, hl => by
    have hL := C.2.2.2.2
    have I0 := I
    obtain ⟨sF, sH, sP, sT, sC, sK, sB, sQ, sU, sV, sS, sR, v, w, t, u, d, z, hR, Z⟩ := I
    refine lv_iload_n C.1.1 C.1.2.1 dL_law_18 rfl (lv_at hl 0 rfl) ?_
    refine lv_aload_n C.1.1 C.1.2.1 dL_law_19 rfl (lv_at hl 3 rfl) ?_
    refine x_slen C Z dL_law_20 ?_
    refine x_iconst C.1 dL_law_21 ?_
    refine x_isub C.1 dL_law_22 ?_
    refine x_icmp_gt (tgt := 840) C.1 dL_law_23 (by decide) ⟨by omega, by omega⟩ ⟨by omega, by omega⟩ (fun _ => hend H locs ls _ Z) (fun hc => ?_)
    refine lv_aload_n C.1.1 C.1.2.1 dL_law_26 rfl (lv_at hl 3 rfl) ?_
    refine lv_iload_n C.1.1 C.1.2.1 dL_law_27 rfl (lv_at hl 0 rfl) ?_
    refine x_sld C Z (x := i) ⟨by omega, by omega⟩ dL_law_28 ?_
    refine x_bipush C.1 dL_law_29 (by decide) ?_
    refine x_iand C.1 dL_law_31 ?_
    refine law_switch (i := i) ⟨h0, by omega⟩ (inR_of _) C I0 hl (fun H1 locs1 I1 => ?_)
    refine x_iinc C.1 dL_law_834 hl (k := 0) rfl (by decide) rfl (fun ls' hl' => ?_)
    refine lv_goto (tgt := 18) C.1.1 C.1.2.1 dL_law_837 (by decide) ?_
    exact law_loop C hend n (i + 3) (by omega) (by omega) (by omega) H1 locs1 ls' I1 hl'
end LWF
