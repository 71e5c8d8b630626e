abbrev rmX6_init : Room := { frames := 3, cells := 110, slots := 7624, locals := 60 }
theorem yc_X6 : xYc yX6_init cX6_init 1 wsX6_init rmX6_init 110 7624 := ⟨⟨_, rfl⟩, by decide +kernel, rfl, rfl, rfl⟩
theorem i_X0_X6_init : ∀ w ∈ u_ws RX0 TX0 4, w ∈ wsX6_init := fun _ h => List.mem_cons_of_mem _ (List.mem_append_left _ (List.mem_append_right _ h))
theorem i_X1_X6_init : ∀ w ∈ u_ws RX1 TX1 13, w ∈ wsX6_init := fun _ h => List.mem_cons_of_mem _ (List.mem_append_left _ (List.mem_append_left _ (List.mem_append_right _ h)))
theorem i_X2_X6_init : ∀ w ∈ u_ws RX2 TX2 5, w ∈ wsX6_init := fun _ h => List.mem_cons_of_mem _ (List.mem_append_left _ (List.mem_append_left _ (List.mem_append_left _ (List.mem_append_left _ (List.mem_append_left _ (List.mem_append_left _ (List.mem_append_right _ h)))))))
theorem i_X3_X6_init : ∀ w ∈ u_ws RX3 TX3 2, w ∈ wsX6_init := fun _ h => List.mem_cons_of_mem _ (List.mem_append_left _ (List.mem_append_left _ (List.mem_append_left _ (List.mem_append_left _ (List.mem_append_right _ h)))))
theorem i_X4_X6_init : ∀ w ∈ u_ws RX4 TX4 1, w ∈ wsX6_init := fun _ h => List.mem_cons_of_mem _ (List.mem_append_right _ h)
theorem i_X5_X6_init : ∀ w ∈ u_ws RX5 TX5 8, w ∈ wsX6_init := fun _ h => List.mem_cons_of_mem _ (List.mem_append_left _ (List.mem_append_left _ (List.mem_append_left _ (List.mem_append_right _ h))))
theorem i_X6_X6_init : ∀ w ∈ u_ws RX6 TX6 11, w ∈ wsX6_init := fun _ h => List.mem_cons_of_mem _ (List.mem_append_left _ (List.mem_append_left _ (List.mem_append_left _ (List.mem_append_left _ (List.mem_append_left _ (List.mem_append_right _ h))))))
set_option maxRecDepth 20000 in
theorem g_X6_X0_init : GoodIn wsX6_init wsX0_init := goodIn_ca (goodIn_r _ [81, 82, 2, 3, 36, 83, 84, 85, 86] rfl (by decide +kernel)) (goodIn_sub i_X0_X6_init (by decide +kernel))
set_option maxRecDepth 20000 in
theorem g_X6_X1_init : GoodIn wsX6_init wsX1_init := goodIn_ca (goodIn_ca (goodIn_r _ [59, 60, 2, 3, 61, 28, 29, 62, 36, 63, 64, 65, 66, 67, 68, 69, 70, 71, 72, 73, 74, 75, 76, 77, 78, 79] rfl (by decide +kernel)) (goodIn_sub i_X4_X6_init (by decide +kernel))) (goodIn_sub i_X1_X6_init (by decide +kernel))
set_option maxRecDepth 20000 in
theorem g_X6_X2_init : GoodIn wsX6_init wsX2_init := goodIn_ca (goodIn_r _ [34, 35, 2, 3, 36, 37, 38, 39, 40, 41] rfl (by decide +kernel)) (goodIn_sub i_X2_X6_init (by decide +kernel))
set_option maxRecDepth 20000 in
theorem g_X6_X3_init : GoodIn wsX6_init wsX3_init := goodIn_ca (goodIn_r _ [43, 44, 2, 3, 36, 45, 46] rfl (by decide +kernel)) (goodIn_sub i_X3_X6_init (by decide +kernel))
set_option maxRecDepth 20000 in
theorem g_X6_X4_init : GoodIn wsX6_init wsX4_init := goodIn_ca (goodIn_r _ [77, 78, 2, 3, 36, 79] rfl (by decide +kernel)) (goodIn_sub i_X4_X6_init (by decide +kernel))
set_option maxRecDepth 20000 in
theorem g_X6_X5_init : GoodIn wsX6_init wsX5_init := goodIn_ca (goodIn_r _ [48, 49, 2, 3, 36, 50, 51, 52, 53, 54, 55, 56, 57] rfl (by decide +kernel)) (goodIn_sub i_X5_X6_init (by decide +kernel))
set_option maxHeartbeats 4000000 in
set_option maxRecDepth 100000 in
theorem k_X6_init (l : Launch) (g : xG) (h : Nat) : xMc l yX6_init wsX6_init rmX6_init g h [(h, .inr (6, [.null, .null, .null, .null, .null, .null, .null, .null, .null, .null, .int 0]))] 110 7624 (fun w => ∃ (aF aH aP aT aC aK aB aQ aU aV aS aR rr : Nat → Nat), aF 0 = h ∧ w = w6 g aF aH aP aT aC aK aB aQ aU aV aS aR rr 0 H00 P00 T00 C00 K00 B00 T00 T00 T00 K00 K00) := by
  refine x_ofW_c (own := RX6) (by decide) rfl rfl rfl (Nat.le_of_ble_eq_true rfl) ?_
  intro p e s m args below meth c ls A QQ C hE hin hRet Z hl
  generalize hH : s.heap = H at Z ⊢
  generalize hLo : ([] : List Loc) = locs at Z ⊢
  have hl : lv_has ls 1 [(0, .ref h)] := hl
  have Z : xSt g A s ((h, .inr (6, [.null, .null, .null, .null, .null, .null, .null, .null, .null, .null, .int 0])) :: ([] : va_W)) H locs := Z
  refine lv_aload_n C.1 C.2.1 dX6_init_0 rfl (lv_at hl 0 rfl) ?_
  refine x_objinit C hl.1 (List.mem_of_getElem? (i := 1) rfl) (List.mem_of_getElem? (i := 2) rfl) (List.mem_of_getElem? (i := 3) rfl) (Nat.le_of_ble_eq_true rfl) (Nat.le_of_ble_eq_true rfl) (Nat.le_of_ble_eq_true rfl) dX6_init_1 ?_
  refine lv_aload_n C.1 C.2.1 dX6_init_4 rfl (lv_at hl 0 rfl) ?_
  refine x_new C Z (ci := 2) (fs := [.null, .null, .null, .null, .int 0]) rfl i_X2_X6_init tyX2_ok (List.mem_of_getElem? (i := 4) rfl) (List.mem_of_getElem? (i := 5) rfl) (List.mem_of_getElem? (i := 6) rfl) (by decide) (Nat.le_of_ble_eq_true rfl) (Nat.le_of_ble_eq_true rfl) dX6_init_5 (fun q1 H Z => ?_)
  refine W.widen (k := 1) (n := 5) (Nat.le_of_ble_eq_true rfl) (Nat.le_of_ble_eq_true rfl) ?_
  refine lv_dup C.1 C.2.1 dX6_init_8 rfl ?_
  refine x_callIN (X := (h, .inr (6, [.null, .null, .null, .null, .null, .null, .null, .null, .null, .null, .int 0])) :: ([] : va_W)) C hE Z (k_X2_init l g q1) g_X6_X2_init hE.2.1 (List.mem_of_getElem? (i := 6) rfl) (List.mem_of_getElem? (i := 33) rfl) yc_X2 ⟨Nat.le_of_ble_eq_true rfl, Nat.le_of_ble_eq_true rfl⟩ ⟨Nat.le_of_ble_eq_true rfl, Nat.le_of_ble_eq_true rfl⟩ hl.1 (Nat.le_of_ble_eq_true rfl) dX6_init_9 (fun w H locs hp Z => ?_)
  obtain ⟨ac0, e0, rfl⟩ := hp
  subst e0
  have Z : xSt g A s ((h, .inr (6, [.null, .null, .null, .null, .null, .null, .null, .null, .null, .null, .int 0])) :: (wH g ac0 H00)) H locs := Z
  refine W.widen (k := 5) (n := 1605) (Nat.le_of_ble_eq_true rfl) (Nat.le_of_ble_eq_true rfl) ?_
  refine x_putF C Z hin 0 (ws2 := (h, .inr (6, [.ref (ac0 0), .null, .null, .null, .null, .null, .null, .null, .null, .null, .int 0])) :: (wH g ac0 H00)) rfl rfl i_X6_X6_init tyX6_ok nmX6 (k := 0) (by decide) (List.mem_of_getElem? (i := 7) rfl) rfl rfl rfl rfl (by decide) dX6_init_12 rfl (fun H locs Z => ?_)
  refine lv_aload_n C.1 C.2.1 dX6_init_15 rfl (lv_at hl 0 rfl) ?_
  refine x_new C Z (ci := 3) (fs := [.null, .int 0]) rfl i_X3_X6_init tyX3_ok (List.mem_of_getElem? (i := 8) rfl) (List.mem_of_getElem? (i := 9) rfl) (List.mem_of_getElem? (i := 10) rfl) (by decide) (Nat.le_of_ble_eq_true rfl) (Nat.le_of_ble_eq_true rfl) dX6_init_16 (fun q2 H Z => ?_)
  refine W.widen (k := 6) (n := 1607) (Nat.le_of_ble_eq_true rfl) (Nat.le_of_ble_eq_true rfl) ?_
  refine lv_dup C.1 C.2.1 dX6_init_19 rfl ?_
  refine x_callIN (X := (h, .inr (6, [.ref (ac0 0), .null, .null, .null, .null, .null, .null, .null, .null, .null, .int 0])) :: (wH g ac0 H00)) C hE Z (k_X3_init l g q2) g_X6_X3_init hE.2.2.1 (List.mem_of_getElem? (i := 10) rfl) (List.mem_of_getElem? (i := 42) rfl) yc_X3 ⟨Nat.le_of_ble_eq_true rfl, Nat.le_of_ble_eq_true rfl⟩ ⟨Nat.le_of_ble_eq_true rfl, Nat.le_of_ble_eq_true rfl⟩ hl.1 (Nat.le_of_ble_eq_true rfl) dX6_init_20 (fun w H locs hp Z => ?_)
  obtain ⟨ac1, e0, rfl⟩ := hp
  subst e0
  have Z : xSt g A s ((h, .inr (6, [.ref (ac0 0), .null, .null, .null, .null, .null, .null, .null, .null, .null, .int 0])) :: (wH g ac0 H00 ++ (wP g ac1 P00))) H locs := Z
  refine W.widen (k := 7) (n := 1667) (Nat.le_of_ble_eq_true rfl) (Nat.le_of_ble_eq_true rfl) ?_
  refine x_putF C Z hin 0 (ws2 := (h, .inr (6, [.ref (ac0 0), .ref (ac1 0), .null, .null, .null, .null, .null, .null, .null, .null, .int 0])) :: (wH g ac0 H00 ++ (wP g ac1 P00))) rfl rfl i_X6_X6_init tyX6_ok nmX6 (k := 1) (by decide) (List.mem_of_getElem? (i := 11) rfl) rfl rfl rfl rfl (by decide) dX6_init_23 rfl (fun H locs Z => ?_)
  refine lv_aload_n C.1 C.2.1 dX6_init_26 rfl (lv_at hl 0 rfl) ?_
  refine x_new C Z (ci := 5) (fs := [.null, .null, .null, .null, .null, .int 0, .int 0, .int 0]) rfl i_X5_X6_init tyX5_ok (List.mem_of_getElem? (i := 12) rfl) (List.mem_of_getElem? (i := 13) rfl) (List.mem_of_getElem? (i := 14) rfl) (by decide) (Nat.le_of_ble_eq_true rfl) (Nat.le_of_ble_eq_true rfl) dX6_init_27 (fun q3 H Z => ?_)
  refine W.widen (k := 8) (n := 1675) (Nat.le_of_ble_eq_true rfl) (Nat.le_of_ble_eq_true rfl) ?_
  refine lv_dup C.1 C.2.1 dX6_init_30 rfl ?_
  refine x_callIN (X := (h, .inr (6, [.ref (ac0 0), .ref (ac1 0), .null, .null, .null, .null, .null, .null, .null, .null, .int 0])) :: (wH g ac0 H00 ++ (wP g ac1 P00))) C hE Z (k_X5_init l g q3) g_X6_X5_init hE.2.2.2.1 (List.mem_of_getElem? (i := 14) rfl) (List.mem_of_getElem? (i := 47) rfl) yc_X5 ⟨Nat.le_of_ble_eq_true rfl, Nat.le_of_ble_eq_true rfl⟩ ⟨Nat.le_of_ble_eq_true rfl, Nat.le_of_ble_eq_true rfl⟩ hl.1 (Nat.le_of_ble_eq_true rfl) dX6_init_31 (fun w H locs hp Z => ?_)
  obtain ⟨ac2, e0, rfl⟩ := hp
  subst e0
  have Z : xSt g A s ((h, .inr (6, [.ref (ac0 0), .ref (ac1 0), .null, .null, .null, .null, .null, .null, .null, .null, .int 0])) :: (wH g ac0 H00 ++ (wP g ac1 P00 ++ (wT g ac2 T00)))) H locs := Z
  refine W.widen (k := 13) (n := 1921) (Nat.le_of_ble_eq_true rfl) (Nat.le_of_ble_eq_true rfl) ?_
  refine x_putF C Z hin 0 (ws2 := (h, .inr (6, [.ref (ac0 0), .ref (ac1 0), .ref (ac2 0), .null, .null, .null, .null, .null, .null, .null, .int 0])) :: (wH g ac0 H00 ++ (wP g ac1 P00 ++ (wT g ac2 T00)))) rfl rfl i_X6_X6_init tyX6_ok nmX6 (k := 2) (by decide) (List.mem_of_getElem? (i := 15) rfl) rfl rfl rfl rfl (by decide) dX6_init_34 rfl (fun H locs Z => ?_)
  refine lv_aload_n C.1 C.2.1 dX6_init_37 rfl (lv_at hl 0 rfl) ?_
  refine x_new C Z (ci := 1) (fs := [.null, .null, .null, .null, .null, .null, .null, .null, .null, .null, .int 0, .int 0, .int 0]) rfl i_X1_X6_init tyX1_ok (List.mem_of_getElem? (i := 16) rfl) (List.mem_of_getElem? (i := 17) rfl) (List.mem_of_getElem? (i := 18) rfl) (by decide) (Nat.le_of_ble_eq_true rfl) (Nat.le_of_ble_eq_true rfl) dX6_init_38 (fun q4 H Z => ?_)
  refine W.widen (k := 14) (n := 1934) (Nat.le_of_ble_eq_true rfl) (Nat.le_of_ble_eq_true rfl) ?_
  refine lv_dup C.1 C.2.1 dX6_init_41 rfl ?_
  refine x_callIN (X := (h, .inr (6, [.ref (ac0 0), .ref (ac1 0), .ref (ac2 0), .null, .null, .null, .null, .null, .null, .null, .int 0])) :: (wH g ac0 H00 ++ (wP g ac1 P00 ++ (wT g ac2 T00)))) C hE Z (k_X1_init l g q4) g_X6_X1_init hE.2.2.2.2.1 (List.mem_of_getElem? (i := 18) rfl) (List.mem_of_getElem? (i := 58) rfl) yc_X1 ⟨Nat.le_of_ble_eq_true rfl, Nat.le_of_ble_eq_true rfl⟩ ⟨Nat.le_of_ble_eq_true rfl, Nat.le_of_ble_eq_true rfl⟩ hl.1 (Nat.le_of_ble_eq_true rfl) dX6_init_42 (fun w H locs hp Z => ?_)
  obtain ⟨aC, aK, rr, e0, rfl⟩ := hp
  subst e0
  have Z := Z.perm (p4 (X := ((h, .inr (6, [.ref (ac0 0), .ref (ac1 0), .ref (ac2 0), .null, .null, .null, .null, .null, .null, .null, .int 0])) :: (wH g ac0 H00 ++ (wP g ac1 P00 ++ (wT g ac2 T00))))))
  have Z : xSt g A s (((h, .inr (6, [.ref (ac0 0), .ref (ac1 0), .ref (ac2 0), .null, .null, .null, .null, .null, .null, .null, .int 0])) :: (wH g ac0 H00 ++ (wP g ac1 P00 ++ (wT g ac2 T00 ++ (wC g aC (aK 0) rr C00 ++ (wS g aK K00)))))) ++ wR g rr (fun _ => z0)) H locs := Z
  refine W.widen (k := 85) (n := 6616) (Nat.le_of_ble_eq_true rfl) (Nat.le_of_ble_eq_true rfl) ?_
  refine x_putF C Z hin 0 (ws2 := ((h, .inr (6, [.ref (ac0 0), .ref (ac1 0), .ref (ac2 0), .ref (aC 0), .null, .null, .null, .null, .null, .null, .int 0])) :: (wH g ac0 H00 ++ (wP g ac1 P00 ++ (wT g ac2 T00 ++ (wC g aC (aK 0) rr C00 ++ (wS g aK K00)))))) ++ wR g rr (fun _ => z0)) rfl rfl i_X6_X6_init tyX6_ok nmX6 (k := 3) (by decide) (List.mem_of_getElem? (i := 19) rfl) rfl rfl rfl rfl (by decide) dX6_init_45 rfl (fun H locs Z => ?_)
  refine lv_aload_n C.1 C.2.1 dX6_init_48 rfl (lv_at hl 0 rfl) ?_
  refine x_new C Z (ci := 0) (fs := [.null, .null, .int 0, .int 0]) rfl i_X0_X6_init tyX0_ok (List.mem_of_getElem? (i := 20) rfl) (List.mem_of_getElem? (i := 21) rfl) (List.mem_of_getElem? (i := 22) rfl) (by decide) (Nat.le_of_ble_eq_true rfl) (Nat.le_of_ble_eq_true rfl) dX6_init_49 (fun q5 H Z => ?_)
  refine W.widen (k := 86) (n := 6620) (Nat.le_of_ble_eq_true rfl) (Nat.le_of_ble_eq_true rfl) ?_
  refine lv_dup C.1 C.2.1 dX6_init_52 rfl ?_
  refine x_callIN (X := ((h, .inr (6, [.ref (ac0 0), .ref (ac1 0), .ref (ac2 0), .ref (aC 0), .null, .null, .null, .null, .null, .null, .int 0])) :: (wH g ac0 H00 ++ (wP g ac1 P00 ++ (wT g ac2 T00 ++ (wC g aC (aK 0) rr C00 ++ (wS g aK K00)))))) ++ wR g rr (fun _ => z0)) C hE Z (k_X0_init l g q5) g_X6_X0_init hE.2.2.2.2.2.1 (List.mem_of_getElem? (i := 22) rfl) (List.mem_of_getElem? (i := 80) rfl) yc_X0 ⟨Nat.le_of_ble_eq_true rfl, Nat.le_of_ble_eq_true rfl⟩ ⟨Nat.le_of_ble_eq_true rfl, Nat.le_of_ble_eq_true rfl⟩ hl.1 (Nat.le_of_ble_eq_true rfl) dX6_init_53 (fun w H locs hp Z => ?_)
  obtain ⟨ac5, e0, rfl⟩ := hp
  subst e0
  have Z := Z.perm p3
  have Z : xSt g A s (((h, .inr (6, [.ref (ac0 0), .ref (ac1 0), .ref (ac2 0), .ref (aC 0), .null, .null, .null, .null, .null, .null, .int 0])) :: (wH g ac0 H00 ++ (wP g ac1 P00 ++ (wT g ac2 T00 ++ (wC g aC (aK 0) rr C00 ++ (wS g aK K00 ++ (wB g ac5 B00))))))) ++ wR g rr (fun _ => z0)) H locs := Z
  refine W.widen (k := 88) (n := 6740) (Nat.le_of_ble_eq_true rfl) (Nat.le_of_ble_eq_true rfl) ?_
  refine x_putF C Z hin 0 (ws2 := ((h, .inr (6, [.ref (ac0 0), .ref (ac1 0), .ref (ac2 0), .ref (aC 0), .ref (ac5 0), .null, .null, .null, .null, .null, .int 0])) :: (wH g ac0 H00 ++ (wP g ac1 P00 ++ (wT g ac2 T00 ++ (wC g aC (aK 0) rr C00 ++ (wS g aK K00 ++ (wB g ac5 B00))))))) ++ wR g rr (fun _ => z0)) rfl rfl i_X6_X6_init tyX6_ok nmX6 (k := 4) (by decide) (List.mem_of_getElem? (i := 23) rfl) rfl rfl rfl rfl (by decide) dX6_init_56 rfl (fun H locs Z => ?_)
  refine lv_aload_n C.1 C.2.1 dX6_init_59 rfl (lv_at hl 0 rfl) ?_
  refine x_new C Z (ci := 5) (fs := [.null, .null, .null, .null, .null, .int 0, .int 0, .int 0]) rfl i_X5_X6_init tyX5_ok (List.mem_of_getElem? (i := 12) rfl) (List.mem_of_getElem? (i := 13) rfl) (List.mem_of_getElem? (i := 14) rfl) (by decide) (Nat.le_of_ble_eq_true rfl) (Nat.le_of_ble_eq_true rfl) dX6_init_60 (fun q6 H Z => ?_)
  refine W.widen (k := 89) (n := 6748) (Nat.le_of_ble_eq_true rfl) (Nat.le_of_ble_eq_true rfl) ?_
  refine lv_dup C.1 C.2.1 dX6_init_63 rfl ?_
  refine x_callIN (X := ((h, .inr (6, [.ref (ac0 0), .ref (ac1 0), .ref (ac2 0), .ref (aC 0), .ref (ac5 0), .null, .null, .null, .null, .null, .int 0])) :: (wH g ac0 H00 ++ (wP g ac1 P00 ++ (wT g ac2 T00 ++ (wC g aC (aK 0) rr C00 ++ (wS g aK K00 ++ (wB g ac5 B00))))))) ++ wR g rr (fun _ => z0)) C hE Z (k_X5_init l g q6) g_X6_X5_init hE.2.2.2.1 (List.mem_of_getElem? (i := 14) rfl) (List.mem_of_getElem? (i := 47) rfl) yc_X5 ⟨Nat.le_of_ble_eq_true rfl, Nat.le_of_ble_eq_true rfl⟩ ⟨Nat.le_of_ble_eq_true rfl, Nat.le_of_ble_eq_true rfl⟩ hl.1 (Nat.le_of_ble_eq_true rfl) dX6_init_64 (fun w H locs hp Z => ?_)
  obtain ⟨ac6, e0, rfl⟩ := hp
  subst e0
  have Z := Z.perm p3
  have Z : xSt g A s (((h, .inr (6, [.ref (ac0 0), .ref (ac1 0), .ref (ac2 0), .ref (aC 0), .ref (ac5 0), .null, .null, .null, .null, .null, .int 0])) :: (wH g ac0 H00 ++ (wP g ac1 P00 ++ (wT g ac2 T00 ++ (wC g aC (aK 0) rr C00 ++ (wS g aK K00 ++ (wB g ac5 B00 ++ (wT g ac6 T00)))))))) ++ wR g rr (fun _ => z0)) H locs := Z
  refine W.widen (k := 94) (n := 6994) (Nat.le_of_ble_eq_true rfl) (Nat.le_of_ble_eq_true rfl) ?_
  refine x_putF C Z hin 0 (ws2 := ((h, .inr (6, [.ref (ac0 0), .ref (ac1 0), .ref (ac2 0), .ref (aC 0), .ref (ac5 0), .ref (ac6 0), .null, .null, .null, .null, .int 0])) :: (wH g ac0 H00 ++ (wP g ac1 P00 ++ (wT g ac2 T00 ++ (wC g aC (aK 0) rr C00 ++ (wS g aK K00 ++ (wB g ac5 B00 ++ (wT g ac6 T00)))))))) ++ wR g rr (fun _ => z0)) rfl rfl i_X6_X6_init tyX6_ok nmX6 (k := 5) (by decide) (List.mem_of_getElem? (i := 24) rfl) rfl rfl rfl rfl (by decide) dX6_init_67 rfl (fun H locs Z => ?_)
  refine lv_aload_n C.1 C.2.1 dX6_init_70 rfl (lv_at hl 0 rfl) ?_
  refine x_new C Z (ci := 5) (fs := [.null, .null, .null, .null, .null, .int 0, .int 0, .int 0]) rfl i_X5_X6_init tyX5_ok (List.mem_of_getElem? (i := 12) rfl) (List.mem_of_getElem? (i := 13) rfl) (List.mem_of_getElem? (i := 14) rfl) (by decide) (Nat.le_of_ble_eq_true rfl) (Nat.le_of_ble_eq_true rfl) dX6_init_71 (fun q7 H Z => ?_)
  refine W.widen (k := 95) (n := 7002) (Nat.le_of_ble_eq_true rfl) (Nat.le_of_ble_eq_true rfl) ?_
  refine lv_dup C.1 C.2.1 dX6_init_74 rfl ?_
  refine x_callIN (X := ((h, .inr (6, [.ref (ac0 0), .ref (ac1 0), .ref (ac2 0), .ref (aC 0), .ref (ac5 0), .ref (ac6 0), .null, .null, .null, .null, .int 0])) :: (wH g ac0 H00 ++ (wP g ac1 P00 ++ (wT g ac2 T00 ++ (wC g aC (aK 0) rr C00 ++ (wS g aK K00 ++ (wB g ac5 B00 ++ (wT g ac6 T00)))))))) ++ wR g rr (fun _ => z0)) C hE Z (k_X5_init l g q7) g_X6_X5_init hE.2.2.2.1 (List.mem_of_getElem? (i := 14) rfl) (List.mem_of_getElem? (i := 47) rfl) yc_X5 ⟨Nat.le_of_ble_eq_true rfl, Nat.le_of_ble_eq_true rfl⟩ ⟨Nat.le_of_ble_eq_true rfl, Nat.le_of_ble_eq_true rfl⟩ hl.1 (Nat.le_of_ble_eq_true rfl) dX6_init_75 (fun w H locs hp Z => ?_)
  obtain ⟨ac7, e0, rfl⟩ := hp
  subst e0
  have Z := Z.perm p3
  have Z : xSt g A s (((h, .inr (6, [.ref (ac0 0), .ref (ac1 0), .ref (ac2 0), .ref (aC 0), .ref (ac5 0), .ref (ac6 0), .null, .null, .null, .null, .int 0])) :: (wH g ac0 H00 ++ (wP g ac1 P00 ++ (wT g ac2 T00 ++ (wC g aC (aK 0) rr C00 ++ (wS g aK K00 ++ (wB g ac5 B00 ++ (wT g ac6 T00 ++ (wT g ac7 T00))))))))) ++ wR g rr (fun _ => z0)) H locs := Z
  refine W.widen (k := 100) (n := 7248) (Nat.le_of_ble_eq_true rfl) (Nat.le_of_ble_eq_true rfl) ?_
  refine x_putF C Z hin 0 (ws2 := ((h, .inr (6, [.ref (ac0 0), .ref (ac1 0), .ref (ac2 0), .ref (aC 0), .ref (ac5 0), .ref (ac6 0), .ref (ac7 0), .null, .null, .null, .int 0])) :: (wH g ac0 H00 ++ (wP g ac1 P00 ++ (wT g ac2 T00 ++ (wC g aC (aK 0) rr C00 ++ (wS g aK K00 ++ (wB g ac5 B00 ++ (wT g ac6 T00 ++ (wT g ac7 T00))))))))) ++ wR g rr (fun _ => z0)) rfl rfl i_X6_X6_init tyX6_ok nmX6 (k := 6) (by decide) (List.mem_of_getElem? (i := 25) rfl) rfl rfl rfl rfl (by decide) dX6_init_78 rfl (fun H locs Z => ?_)
  refine lv_aload_n C.1 C.2.1 dX6_init_81 rfl (lv_at hl 0 rfl) ?_
  refine x_new C Z (ci := 5) (fs := [.null, .null, .null, .null, .null, .int 0, .int 0, .int 0]) rfl i_X5_X6_init tyX5_ok (List.mem_of_getElem? (i := 12) rfl) (List.mem_of_getElem? (i := 13) rfl) (List.mem_of_getElem? (i := 14) rfl) (by decide) (Nat.le_of_ble_eq_true rfl) (Nat.le_of_ble_eq_true rfl) dX6_init_82 (fun q8 H Z => ?_)
  refine W.widen (k := 101) (n := 7256) (Nat.le_of_ble_eq_true rfl) (Nat.le_of_ble_eq_true rfl) ?_
  refine lv_dup C.1 C.2.1 dX6_init_85 rfl ?_
  refine x_callIN (X := ((h, .inr (6, [.ref (ac0 0), .ref (ac1 0), .ref (ac2 0), .ref (aC 0), .ref (ac5 0), .ref (ac6 0), .ref (ac7 0), .null, .null, .null, .int 0])) :: (wH g ac0 H00 ++ (wP g ac1 P00 ++ (wT g ac2 T00 ++ (wC g aC (aK 0) rr C00 ++ (wS g aK K00 ++ (wB g ac5 B00 ++ (wT g ac6 T00 ++ (wT g ac7 T00))))))))) ++ wR g rr (fun _ => z0)) C hE Z (k_X5_init l g q8) g_X6_X5_init hE.2.2.2.1 (List.mem_of_getElem? (i := 14) rfl) (List.mem_of_getElem? (i := 47) rfl) yc_X5 ⟨Nat.le_of_ble_eq_true rfl, Nat.le_of_ble_eq_true rfl⟩ ⟨Nat.le_of_ble_eq_true rfl, Nat.le_of_ble_eq_true rfl⟩ hl.1 (Nat.le_of_ble_eq_true rfl) dX6_init_86 (fun w H locs hp Z => ?_)
  obtain ⟨ac8, e0, rfl⟩ := hp
  subst e0
  have Z := Z.perm p3
  have Z : xSt g A s (((h, .inr (6, [.ref (ac0 0), .ref (ac1 0), .ref (ac2 0), .ref (aC 0), .ref (ac5 0), .ref (ac6 0), .ref (ac7 0), .null, .null, .null, .int 0])) :: (wH g ac0 H00 ++ (wP g ac1 P00 ++ (wT g ac2 T00 ++ (wC g aC (aK 0) rr C00 ++ (wS g aK K00 ++ (wB g ac5 B00 ++ (wT g ac6 T00 ++ (wT g ac7 T00 ++ (wT g ac8 T00)))))))))) ++ wR g rr (fun _ => z0)) H locs := Z
  refine W.widen (k := 106) (n := 7502) (Nat.le_of_ble_eq_true rfl) (Nat.le_of_ble_eq_true rfl) ?_
  refine x_putF C Z hin 0 (ws2 := ((h, .inr (6, [.ref (ac0 0), .ref (ac1 0), .ref (ac2 0), .ref (aC 0), .ref (ac5 0), .ref (ac6 0), .ref (ac7 0), .ref (ac8 0), .null, .null, .int 0])) :: (wH g ac0 H00 ++ (wP g ac1 P00 ++ (wT g ac2 T00 ++ (wC g aC (aK 0) rr C00 ++ (wS g aK K00 ++ (wB g ac5 B00 ++ (wT g ac6 T00 ++ (wT g ac7 T00 ++ (wT g ac8 T00)))))))))) ++ wR g rr (fun _ => z0)) rfl rfl i_X6_X6_init tyX6_ok nmX6 (k := 7) (by decide) (List.mem_of_getElem? (i := 26) rfl) rfl rfl rfl rfl (by decide) dX6_init_89 rfl (fun H locs Z => ?_)
  refine lv_aload_n C.1 C.2.1 dX6_init_92 rfl (lv_at hl 0 rfl) ?_
  refine x_new C Z (ci := 4) (fs := [.null]) rfl i_X4_X6_init tyX4_ok (List.mem_of_getElem? (i := 27) rfl) (List.mem_of_getElem? (i := 28) rfl) (List.mem_of_getElem? (i := 29) rfl) (by decide) (Nat.le_of_ble_eq_true rfl) (Nat.le_of_ble_eq_true rfl) dX6_init_93 (fun q9 H Z => ?_)
  refine W.widen (k := 107) (n := 7503) (Nat.le_of_ble_eq_true rfl) (Nat.le_of_ble_eq_true rfl) ?_
  refine lv_dup C.1 C.2.1 dX6_init_96 rfl ?_
  refine x_callIN (X := ((h, .inr (6, [.ref (ac0 0), .ref (ac1 0), .ref (ac2 0), .ref (aC 0), .ref (ac5 0), .ref (ac6 0), .ref (ac7 0), .ref (ac8 0), .null, .null, .int 0])) :: (wH g ac0 H00 ++ (wP g ac1 P00 ++ (wT g ac2 T00 ++ (wC g aC (aK 0) rr C00 ++ (wS g aK K00 ++ (wB g ac5 B00 ++ (wT g ac6 T00 ++ (wT g ac7 T00 ++ (wT g ac8 T00)))))))))) ++ wR g rr (fun _ => z0)) C hE Z (k_X4_init l g q9) g_X6_X4_init hE.2.2.2.2.2.2.1 (List.mem_of_getElem? (i := 29) rfl) (List.mem_of_getElem? (i := 76) rfl) yc_X4 ⟨Nat.le_of_ble_eq_true rfl, Nat.le_of_ble_eq_true rfl⟩ ⟨Nat.le_of_ble_eq_true rfl, Nat.le_of_ble_eq_true rfl⟩ hl.1 (Nat.le_of_ble_eq_true rfl) dX6_init_97 (fun w H locs hp Z => ?_)
  obtain ⟨ac9, e0, rfl⟩ := hp
  subst e0
  have Z := Z.perm p3
  have Z : xSt g A s (((h, .inr (6, [.ref (ac0 0), .ref (ac1 0), .ref (ac2 0), .ref (aC 0), .ref (ac5 0), .ref (ac6 0), .ref (ac7 0), .ref (ac8 0), .null, .null, .int 0])) :: (wH g ac0 H00 ++ (wP g ac1 P00 ++ (wT g ac2 T00 ++ (wC g aC (aK 0) rr C00 ++ (wS g aK K00 ++ (wB g ac5 B00 ++ (wT g ac6 T00 ++ (wT g ac7 T00 ++ (wT g ac8 T00 ++ (wS g ac9 K00))))))))))) ++ wR g rr (fun _ => z0)) H locs := Z
  refine W.widen (k := 108) (n := 7563) (Nat.le_of_ble_eq_true rfl) (Nat.le_of_ble_eq_true rfl) ?_
  refine x_putF C Z hin 0 (ws2 := ((h, .inr (6, [.ref (ac0 0), .ref (ac1 0), .ref (ac2 0), .ref (aC 0), .ref (ac5 0), .ref (ac6 0), .ref (ac7 0), .ref (ac8 0), .ref (ac9 0), .null, .int 0])) :: (wH g ac0 H00 ++ (wP g ac1 P00 ++ (wT g ac2 T00 ++ (wC g aC (aK 0) rr C00 ++ (wS g aK K00 ++ (wB g ac5 B00 ++ (wT g ac6 T00 ++ (wT g ac7 T00 ++ (wT g ac8 T00 ++ (wS g ac9 K00))))))))))) ++ wR g rr (fun _ => z0)) rfl rfl i_X6_X6_init tyX6_ok nmX6 (k := 8) (by decide) (List.mem_of_getElem? (i := 30) rfl) rfl rfl rfl rfl (by decide) dX6_init_100 rfl (fun H locs Z => ?_)
  refine lv_aload_n C.1 C.2.1 dX6_init_103 rfl (lv_at hl 0 rfl) ?_
  refine x_new C Z (ci := 4) (fs := [.null]) rfl i_X4_X6_init tyX4_ok (List.mem_of_getElem? (i := 27) rfl) (List.mem_of_getElem? (i := 28) rfl) (List.mem_of_getElem? (i := 29) rfl) (by decide) (Nat.le_of_ble_eq_true rfl) (Nat.le_of_ble_eq_true rfl) dX6_init_104 (fun q10 H Z => ?_)
  refine W.widen (k := 109) (n := 7564) (Nat.le_of_ble_eq_true rfl) (Nat.le_of_ble_eq_true rfl) ?_
  refine lv_dup C.1 C.2.1 dX6_init_107 rfl ?_
  refine x_callIN (X := ((h, .inr (6, [.ref (ac0 0), .ref (ac1 0), .ref (ac2 0), .ref (aC 0), .ref (ac5 0), .ref (ac6 0), .ref (ac7 0), .ref (ac8 0), .ref (ac9 0), .null, .int 0])) :: (wH g ac0 H00 ++ (wP g ac1 P00 ++ (wT g ac2 T00 ++ (wC g aC (aK 0) rr C00 ++ (wS g aK K00 ++ (wB g ac5 B00 ++ (wT g ac6 T00 ++ (wT g ac7 T00 ++ (wT g ac8 T00 ++ (wS g ac9 K00))))))))))) ++ wR g rr (fun _ => z0)) C hE Z (k_X4_init l g q10) g_X6_X4_init hE.2.2.2.2.2.2.1 (List.mem_of_getElem? (i := 29) rfl) (List.mem_of_getElem? (i := 76) rfl) yc_X4 ⟨Nat.le_of_ble_eq_true rfl, Nat.le_of_ble_eq_true rfl⟩ ⟨Nat.le_of_ble_eq_true rfl, Nat.le_of_ble_eq_true rfl⟩ hl.1 (Nat.le_of_ble_eq_true rfl) dX6_init_108 (fun w H locs hp Z => ?_)
  obtain ⟨ac10, e0, rfl⟩ := hp
  subst e0
  have Z := Z.perm p3
  have Z : xSt g A s (((h, .inr (6, [.ref (ac0 0), .ref (ac1 0), .ref (ac2 0), .ref (aC 0), .ref (ac5 0), .ref (ac6 0), .ref (ac7 0), .ref (ac8 0), .ref (ac9 0), .null, .int 0])) :: (wH g ac0 H00 ++ (wP g ac1 P00 ++ (wT g ac2 T00 ++ (wC g aC (aK 0) rr C00 ++ (wS g aK K00 ++ (wB g ac5 B00 ++ (wT g ac6 T00 ++ (wT g ac7 T00 ++ (wT g ac8 T00 ++ (wS g ac9 K00 ++ (wS g ac10 K00)))))))))))) ++ wR g rr (fun _ => z0)) H locs := Z
  refine W.widen (k := 110) (n := 7624) (Nat.le_of_ble_eq_true rfl) (Nat.le_of_ble_eq_true rfl) ?_
  refine x_putF C Z hin 0 (ws2 := ((h, .inr (6, [.ref (ac0 0), .ref (ac1 0), .ref (ac2 0), .ref (aC 0), .ref (ac5 0), .ref (ac6 0), .ref (ac7 0), .ref (ac8 0), .ref (ac9 0), .ref (ac10 0), .int 0])) :: (wH g ac0 H00 ++ (wP g ac1 P00 ++ (wT g ac2 T00 ++ (wC g aC (aK 0) rr C00 ++ (wS g aK K00 ++ (wB g ac5 B00 ++ (wT g ac6 T00 ++ (wT g ac7 T00 ++ (wT g ac8 T00 ++ (wS g ac9 K00 ++ (wS g ac10 K00)))))))))))) ++ wR g rr (fun _ => z0)) rfl rfl i_X6_X6_init tyX6_ok nmX6 (k := 9) (by decide) (List.mem_of_getElem? (i := 31) rfl) rfl rfl rfl rfl (by decide) dX6_init_111 rfl (fun H locs Z => ?_)
  refine lv_aload_n C.1 C.2.1 dX6_init_114 rfl (lv_at hl 0 rfl) ?_
  refine x_iconst C dX6_init_115 ?_
  refine x_put C Z 0 (ws2 := ((h, .inr (6, [.ref (ac0 0), .ref (ac1 0), .ref (ac2 0), .ref (aC 0), .ref (ac5 0), .ref (ac6 0), .ref (ac7 0), .ref (ac8 0), .ref (ac9 0), .ref (ac10 0), .int (iI 0)])) :: (wH g ac0 H00 ++ (wP g ac1 P00 ++ (wT g ac2 T00 ++ (wC g aC (aK 0) rr C00 ++ (wS g aK K00 ++ (wB g ac5 B00 ++ (wT g ac6 T00 ++ (wT g ac7 T00 ++ (wT g ac8 T00 ++ (wS g ac9 K00 ++ (wS g ac10 K00)))))))))))) ++ wR g rr (fun _ => z0)) rfl rfl i_X6_X6_init tyX6_ok nmX6 (k := 10) (by decide) (List.mem_of_getElem? (i := 32) rfl) rfl rfl (by decide) dX6_init_116 rfl (fun H locs Z => ?_)
  exact hRet _ _ _ _ _ ⟨fun i => [h].getD i 0, ac0, ac1, ac2, aC, aK, ac5, ac6, ac7, ac8, ac9, ac10, rr, rfl, rfl⟩ Z dX6_init_119
