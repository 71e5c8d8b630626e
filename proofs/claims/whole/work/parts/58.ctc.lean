abbrev rmX1_init : Room := { frames := 2, cells := 71, slots := 4682, locals := 40 }
theorem yc_X1 : xYc yX1_init cX1_init 1 wsX1_init rmX1_init 71 4682 := ⟨⟨_, rfl⟩, by decide +kernel, rfl, rfl, rfl⟩
theorem i_X1_X1_init : ∀ w ∈ u_ws RX1 TX1 13, w ∈ wsX1_init := fun _ h => List.mem_cons_of_mem _ (List.mem_append_right _ h)
theorem i_X4_X1_init : ∀ w ∈ u_ws RX4 TX4 1, w ∈ wsX1_init := fun _ h => List.mem_cons_of_mem _ (List.mem_append_left _ (List.mem_append_right _ h))
set_option maxRecDepth 20000 in
theorem g_X1_X4_init : GoodIn wsX1_init wsX4_init := goodIn_ca (goodIn_r _ [23, 24, 2, 3, 8, 25] rfl (by decide +kernel)) (goodIn_sub i_X4_X1_init (by decide +kernel))
set_option maxHeartbeats 4000000 in
set_option maxRecDepth 100000 in
theorem k_X1_init (l : Launch) (g : xG) (h : Nat) : xMc l yX1_init wsX1_init rmX1_init g h [(h, .inr (1, [.null, .null, .null, .null, .null, .null, .null, .null, .null, .null, .int 0, .int 0, .int 0]))] 71 4682 (fun w => ∃ (a aK rr : Nat → Nat), a 0 = h ∧ w = (wC g a (aK 0) rr C00 ++ wS g aK K00) ++ wR g rr (fun _ => z0)) := by
  refine x_ofW_c (own := RX1) (by decide) rfl rfl rfl (Nat.le_of_ble_eq_true rfl) ?_
  intro p e s m args below meth c ls A QQ C hE hin hRet Z hl
  generalize hH : s.heap = H at Z ⊢
  generalize hLo : ([] : List Loc) = locs at Z ⊢
  have hl : lv_has ls 1 [(0, .ref h)] := hl
  have Z : xSt g A s ((h, .inr (1, [.null, .null, .null, .null, .null, .null, .null, .null, .null, .null, .int 0, .int 0, .int 0])) :: ([] : va_W)) H locs := Z
  refine lv_aload_n C.1 C.2.1 dX1_init_0 rfl (lv_at hl 0 rfl) ?_
  refine x_objinit C hl.1 (List.mem_of_getElem? (i := 1) rfl) (List.mem_of_getElem? (i := 2) rfl) (List.mem_of_getElem? (i := 3) rfl) (Nat.le_of_ble_eq_true rfl) (Nat.le_of_ble_eq_true rfl) (Nat.le_of_ble_eq_true rfl) dX1_init_1 ?_
  refine lv_aload_n C.1 C.2.1 dX1_init_4 rfl (lv_at hl 0 rfl) ?_
  refine x_new C Z (ci := 4) (fs := [.null]) rfl i_X4_X1_init tyX4_ok (List.mem_of_getElem? (i := 4) rfl) (List.mem_of_getElem? (i := 5) rfl) (List.mem_of_getElem? (i := 6) rfl) (by decide) (Nat.le_of_ble_eq_true rfl) (Nat.le_of_ble_eq_true rfl) dX1_init_5 (fun q1 H Z => ?_)
  refine W.widen (k := 1) (n := 1) (Nat.le_of_ble_eq_true rfl) (Nat.le_of_ble_eq_true rfl) ?_
  refine lv_dup C.1 C.2.1 dX1_init_8 rfl ?_
  refine x_callIN (X := (h, .inr (1, [.null, .null, .null, .null, .null, .null, .null, .null, .null, .null, .int 0, .int 0, .int 0])) :: ([] : va_W)) C hE Z (k_X4_init l g q1) g_X1_X4_init hE.2.2.2.2.2.2.2 (List.mem_of_getElem? (i := 6) rfl) (List.mem_of_getElem? (i := 22) rfl) yc_X4 ⟨Nat.le_of_ble_eq_true rfl, Nat.le_of_ble_eq_true rfl⟩ ⟨Nat.le_of_ble_eq_true rfl, Nat.le_of_ble_eq_true rfl⟩ hl.1 (Nat.le_of_ble_eq_true rfl) dX1_init_9 (fun w H locs hp Zn => ?_)
  obtain ⟨ac0, e0, rfl⟩ := hp
  subst e0
  have Z : xSt g A s ((h, .inr (1, [.null, .null, .null, .null, .null, .null, .null, .null, .null, .null, .int 0, .int 0, .int 0])) :: [(ac0 0, .inr (4, [.ref (ac0 1)])), (ac0 1, .inl (g.2.1, 60, .inl (lf K00)))]) H locs := Zn
  refine W.widen (k := 2) (n := 61) (Nat.le_of_ble_eq_true rfl) (Nat.le_of_ble_eq_true rfl) ?_
  refine x_putF C Z hin 0 (ws2 := (h, .inr (1, [.ref (ac0 0), .null, .null, .null, .null, .null, .null, .null, .null, .null, .int 0, .int 0, .int 0])) :: [(ac0 0, .inr (4, [.ref (ac0 1)])), (ac0 1, .inl (g.2.1, 60, .inl (lf K00)))]) rfl rfl i_X1_X1_init tyX1_ok nmX1 (k := 0) (by decide) (List.mem_of_getElem? (i := 7) rfl) rfl rfl rfl rfl (Nat.le_of_ble_eq_true rfl) dX1_init_12 rfl (fun H locs Z => ?_)
  refine lv_aload_n C.1 C.2.1 dX1_init_15 rfl (lv_at hl 0 rfl) ?_
  refine x_bipush C dX1_init_16 (by decide) ?_
  refine x_newa C Z (N := 61) (List.mem_of_getElem? (i := 8) rfl) (by decide) rfl (Nat.le_of_ble_eq_true rfl) (Nat.le_of_ble_eq_true rfl) dX1_init_18 (fun q2 H Z => ?_)
  have Z : xSt g A s ((h, .inr (1, [.ref (ac0 0), .null, .null, .null, .null, .null, .null, .null, .null, .null, .int 0, .int 0, .int 0])) :: [(ac0 0, .inr (4, [.ref (ac0 1)])), (ac0 1, .inl (g.2.1, 60, .inl (lf K00))), (q2, .inl (g.2.1, 61, .inl (lf z0)))]) H locs := Z
  refine W.widen (k := 3) (n := 122) (Nat.le_of_ble_eq_true rfl) (Nat.le_of_ble_eq_true rfl) ?_
  refine x_putF C Z hin 0 (ws2 := (h, .inr (1, [.ref (ac0 0), .ref q2, .null, .null, .null, .null, .null, .null, .null, .null, .int 0, .int 0, .int 0])) :: [(ac0 0, .inr (4, [.ref (ac0 1)])), (ac0 1, .inl (g.2.1, 60, .inl (lf K00))), (q2, .inl (g.2.1, 61, .inl (lf z0)))]) rfl rfl i_X1_X1_init tyX1_ok nmX1 (k := 1) (by decide) (List.mem_of_getElem? (i := 9) rfl) rfl rfl rfl rfl (Nat.le_of_ble_eq_true rfl) dX1_init_20 rfl (fun H locs Z => ?_)
  refine lv_aload_n C.1 C.2.1 dX1_init_23 rfl (lv_at hl 0 rfl) ?_
  refine x_bipush C dX1_init_24 (by decide) ?_
  refine x_bipush C dX1_init_26 (by decide) ?_
  refine x_mna C hE.1 Z (List.mem_of_getElem? (i := 10) rfl) (Nat.le_of_ble_eq_true rfl) (Nat.le_of_ble_eq_true rfl) dX1_init_28 (fun q3 rr H locs Z => ?_)
  have Z : xSt g A s (((h, .inr (1, [.ref (ac0 0), .ref q2, .null, .null, .null, .null, .null, .null, .null, .null, .int 0, .int 0, .int 0])) :: [(ac0 0, .inr (4, [.ref (ac0 1)])), (ac0 1, .inl (g.2.1, 60, .inl (lf K00))), (q2, .inl (g.2.1, 61, .inl (lf z0))), wO g q3 rr]) ++ wR g rr (fun _ => z0)) H locs := Z
  refine W.widen (k := 64) (n := 3842) (Nat.le_of_ble_eq_true rfl) (Nat.le_of_ble_eq_true rfl) ?_
  refine x_putF C Z hin 0 (ws2 := ((h, .inr (1, [.ref (ac0 0), .ref q2, .ref q3, .null, .null, .null, .null, .null, .null, .null, .int 0, .int 0, .int 0])) :: [(ac0 0, .inr (4, [.ref (ac0 1)])), (ac0 1, .inl (g.2.1, 60, .inl (lf K00))), (q2, .inl (g.2.1, 61, .inl (lf z0))), wO g q3 rr]) ++ wR g rr (fun _ => z0)) rfl rfl i_X1_X1_init tyX1_ok nmX1 (k := 2) (by decide) (List.mem_of_getElem? (i := 11) rfl) rfl rfl rfl rfl (Nat.le_of_ble_eq_true rfl) dX1_init_32 rfl (fun H locs Z => ?_)
  refine lv_aload_n C.1 C.2.1 dX1_init_35 rfl (lv_at hl 0 rfl) ?_
  refine x_bipush C dX1_init_36 (by decide) ?_
  refine x_newa C Z (N := 120) (List.mem_of_getElem? (i := 8) rfl) (by decide) rfl (Nat.le_of_ble_eq_true rfl) (Nat.le_of_ble_eq_true rfl) dX1_init_38 (fun q4 H Z => ?_)
  have Z := Z.perm p3
  have Z : xSt g A s (((h, .inr (1, [.ref (ac0 0), .ref q2, .ref q3, .null, .null, .null, .null, .null, .null, .null, .int 0, .int 0, .int 0])) :: [(ac0 0, .inr (4, [.ref (ac0 1)])), (ac0 1, .inl (g.2.1, 60, .inl (lf K00))), (q2, .inl (g.2.1, 61, .inl (lf z0))), wO g q3 rr, (q4, .inl (g.2.1, 120, .inl (lf z0)))]) ++ wR g rr (fun _ => z0)) H locs := Z
  refine W.widen (k := 65) (n := 3962) (Nat.le_of_ble_eq_true rfl) (Nat.le_of_ble_eq_true rfl) ?_
  refine x_putF C Z hin 0 (ws2 := ((h, .inr (1, [.ref (ac0 0), .ref q2, .ref q3, .ref q4, .null, .null, .null, .null, .null, .null, .int 0, .int 0, .int 0])) :: [(ac0 0, .inr (4, [.ref (ac0 1)])), (ac0 1, .inl (g.2.1, 60, .inl (lf K00))), (q2, .inl (g.2.1, 61, .inl (lf z0))), wO g q3 rr, (q4, .inl (g.2.1, 120, .inl (lf z0)))]) ++ wR g rr (fun _ => z0)) rfl rfl i_X1_X1_init tyX1_ok nmX1 (k := 3) (by decide) (List.mem_of_getElem? (i := 12) rfl) rfl rfl rfl rfl (Nat.le_of_ble_eq_true rfl) dX1_init_40 rfl (fun H locs Z => ?_)
  refine lv_aload_n C.1 C.2.1 dX1_init_43 rfl (lv_at hl 0 rfl) ?_
  refine x_bipush C dX1_init_44 (by decide) ?_
  refine x_newa C Z (N := 120) (List.mem_of_getElem? (i := 8) rfl) (by decide) rfl (Nat.le_of_ble_eq_true rfl) (Nat.le_of_ble_eq_true rfl) dX1_init_46 (fun q5 H Z => ?_)
  have Z := Z.perm p3
  have Z : xSt g A s (((h, .inr (1, [.ref (ac0 0), .ref q2, .ref q3, .ref q4, .null, .null, .null, .null, .null, .null, .int 0, .int 0, .int 0])) :: [(ac0 0, .inr (4, [.ref (ac0 1)])), (ac0 1, .inl (g.2.1, 60, .inl (lf K00))), (q2, .inl (g.2.1, 61, .inl (lf z0))), wO g q3 rr, (q4, .inl (g.2.1, 120, .inl (lf z0))), (q5, .inl (g.2.1, 120, .inl (lf z0)))]) ++ wR g rr (fun _ => z0)) H locs := Z
  refine W.widen (k := 66) (n := 4082) (Nat.le_of_ble_eq_true rfl) (Nat.le_of_ble_eq_true rfl) ?_
  refine x_putF C Z hin 0 (ws2 := ((h, .inr (1, [.ref (ac0 0), .ref q2, .ref q3, .ref q4, .ref q5, .null, .null, .null, .null, .null, .int 0, .int 0, .int 0])) :: [(ac0 0, .inr (4, [.ref (ac0 1)])), (ac0 1, .inl (g.2.1, 60, .inl (lf K00))), (q2, .inl (g.2.1, 61, .inl (lf z0))), wO g q3 rr, (q4, .inl (g.2.1, 120, .inl (lf z0))), (q5, .inl (g.2.1, 120, .inl (lf z0)))]) ++ wR g rr (fun _ => z0)) rfl rfl i_X1_X1_init tyX1_ok nmX1 (k := 4) (by decide) (List.mem_of_getElem? (i := 13) rfl) rfl rfl rfl rfl (Nat.le_of_ble_eq_true rfl) dX1_init_48 rfl (fun H locs Z => ?_)
  refine lv_aload_n C.1 C.2.1 dX1_init_51 rfl (lv_at hl 0 rfl) ?_
  refine x_bipush C dX1_init_52 (by decide) ?_
  refine x_newa C Z (N := 120) (List.mem_of_getElem? (i := 8) rfl) (by decide) rfl (Nat.le_of_ble_eq_true rfl) (Nat.le_of_ble_eq_true rfl) dX1_init_54 (fun q6 H Z => ?_)
  have Z := Z.perm p3
  have Z : xSt g A s (((h, .inr (1, [.ref (ac0 0), .ref q2, .ref q3, .ref q4, .ref q5, .null, .null, .null, .null, .null, .int 0, .int 0, .int 0])) :: [(ac0 0, .inr (4, [.ref (ac0 1)])), (ac0 1, .inl (g.2.1, 60, .inl (lf K00))), (q2, .inl (g.2.1, 61, .inl (lf z0))), wO g q3 rr, (q4, .inl (g.2.1, 120, .inl (lf z0))), (q5, .inl (g.2.1, 120, .inl (lf z0))), (q6, .inl (g.2.1, 120, .inl (lf z0)))]) ++ wR g rr (fun _ => z0)) H locs := Z
  refine W.widen (k := 67) (n := 4202) (Nat.le_of_ble_eq_true rfl) (Nat.le_of_ble_eq_true rfl) ?_
  refine x_putF C Z hin 0 (ws2 := ((h, .inr (1, [.ref (ac0 0), .ref q2, .ref q3, .ref q4, .ref q5, .ref q6, .null, .null, .null, .null, .int 0, .int 0, .int 0])) :: [(ac0 0, .inr (4, [.ref (ac0 1)])), (ac0 1, .inl (g.2.1, 60, .inl (lf K00))), (q2, .inl (g.2.1, 61, .inl (lf z0))), wO g q3 rr, (q4, .inl (g.2.1, 120, .inl (lf z0))), (q5, .inl (g.2.1, 120, .inl (lf z0))), (q6, .inl (g.2.1, 120, .inl (lf z0)))]) ++ wR g rr (fun _ => z0)) rfl rfl i_X1_X1_init tyX1_ok nmX1 (k := 5) (by decide) (List.mem_of_getElem? (i := 14) rfl) rfl rfl rfl rfl (Nat.le_of_ble_eq_true rfl) dX1_init_56 rfl (fun H locs Z => ?_)
  refine lv_aload_n C.1 C.2.1 dX1_init_59 rfl (lv_at hl 0 rfl) ?_
  refine x_bipush C dX1_init_60 (by decide) ?_
  refine x_newa C Z (N := 120) (List.mem_of_getElem? (i := 8) rfl) (by decide) rfl (Nat.le_of_ble_eq_true rfl) (Nat.le_of_ble_eq_true rfl) dX1_init_62 (fun q7 H Z => ?_)
  have Z := Z.perm p3
  have Z : xSt g A s (((h, .inr (1, [.ref (ac0 0), .ref q2, .ref q3, .ref q4, .ref q5, .ref q6, .null, .null, .null, .null, .int 0, .int 0, .int 0])) :: [(ac0 0, .inr (4, [.ref (ac0 1)])), (ac0 1, .inl (g.2.1, 60, .inl (lf K00))), (q2, .inl (g.2.1, 61, .inl (lf z0))), wO g q3 rr, (q4, .inl (g.2.1, 120, .inl (lf z0))), (q5, .inl (g.2.1, 120, .inl (lf z0))), (q6, .inl (g.2.1, 120, .inl (lf z0))), (q7, .inl (g.2.1, 120, .inl (lf z0)))]) ++ wR g rr (fun _ => z0)) H locs := Z
  refine W.widen (k := 68) (n := 4322) (Nat.le_of_ble_eq_true rfl) (Nat.le_of_ble_eq_true rfl) ?_
  refine x_putF C Z hin 0 (ws2 := ((h, .inr (1, [.ref (ac0 0), .ref q2, .ref q3, .ref q4, .ref q5, .ref q6, .ref q7, .null, .null, .null, .int 0, .int 0, .int 0])) :: [(ac0 0, .inr (4, [.ref (ac0 1)])), (ac0 1, .inl (g.2.1, 60, .inl (lf K00))), (q2, .inl (g.2.1, 61, .inl (lf z0))), wO g q3 rr, (q4, .inl (g.2.1, 120, .inl (lf z0))), (q5, .inl (g.2.1, 120, .inl (lf z0))), (q6, .inl (g.2.1, 120, .inl (lf z0))), (q7, .inl (g.2.1, 120, .inl (lf z0)))]) ++ wR g rr (fun _ => z0)) rfl rfl i_X1_X1_init tyX1_ok nmX1 (k := 6) (by decide) (List.mem_of_getElem? (i := 15) rfl) rfl rfl rfl rfl (Nat.le_of_ble_eq_true rfl) dX1_init_64 rfl (fun H locs Z => ?_)
  refine lv_aload_n C.1 C.2.1 dX1_init_67 rfl (lv_at hl 0 rfl) ?_
  refine x_bipush C dX1_init_68 (by decide) ?_
  refine x_newa C Z (N := 120) (List.mem_of_getElem? (i := 8) rfl) (by decide) rfl (Nat.le_of_ble_eq_true rfl) (Nat.le_of_ble_eq_true rfl) dX1_init_70 (fun q8 H Z => ?_)
  have Z := Z.perm p3
  have Z : xSt g A s (((h, .inr (1, [.ref (ac0 0), .ref q2, .ref q3, .ref q4, .ref q5, .ref q6, .ref q7, .null, .null, .null, .int 0, .int 0, .int 0])) :: [(ac0 0, .inr (4, [.ref (ac0 1)])), (ac0 1, .inl (g.2.1, 60, .inl (lf K00))), (q2, .inl (g.2.1, 61, .inl (lf z0))), wO g q3 rr, (q4, .inl (g.2.1, 120, .inl (lf z0))), (q5, .inl (g.2.1, 120, .inl (lf z0))), (q6, .inl (g.2.1, 120, .inl (lf z0))), (q7, .inl (g.2.1, 120, .inl (lf z0))), (q8, .inl (g.2.1, 120, .inl (lf z0)))]) ++ wR g rr (fun _ => z0)) H locs := Z
  refine W.widen (k := 69) (n := 4442) (Nat.le_of_ble_eq_true rfl) (Nat.le_of_ble_eq_true rfl) ?_
  refine x_putF C Z hin 0 (ws2 := ((h, .inr (1, [.ref (ac0 0), .ref q2, .ref q3, .ref q4, .ref q5, .ref q6, .ref q7, .ref q8, .null, .null, .int 0, .int 0, .int 0])) :: [(ac0 0, .inr (4, [.ref (ac0 1)])), (ac0 1, .inl (g.2.1, 60, .inl (lf K00))), (q2, .inl (g.2.1, 61, .inl (lf z0))), wO g q3 rr, (q4, .inl (g.2.1, 120, .inl (lf z0))), (q5, .inl (g.2.1, 120, .inl (lf z0))), (q6, .inl (g.2.1, 120, .inl (lf z0))), (q7, .inl (g.2.1, 120, .inl (lf z0))), (q8, .inl (g.2.1, 120, .inl (lf z0)))]) ++ wR g rr (fun _ => z0)) rfl rfl i_X1_X1_init tyX1_ok nmX1 (k := 7) (by decide) (List.mem_of_getElem? (i := 16) rfl) rfl rfl rfl rfl (Nat.le_of_ble_eq_true rfl) dX1_init_72 rfl (fun H locs Z => ?_)
  refine lv_aload_n C.1 C.2.1 dX1_init_75 rfl (lv_at hl 0 rfl) ?_
  refine x_bipush C dX1_init_76 (by decide) ?_
  refine x_newa C Z (N := 120) (List.mem_of_getElem? (i := 8) rfl) (by decide) rfl (Nat.le_of_ble_eq_true rfl) (Nat.le_of_ble_eq_true rfl) dX1_init_78 (fun q9 H Z => ?_)
  have Z := Z.perm p3
  have Z : xSt g A s (((h, .inr (1, [.ref (ac0 0), .ref q2, .ref q3, .ref q4, .ref q5, .ref q6, .ref q7, .ref q8, .null, .null, .int 0, .int 0, .int 0])) :: [(ac0 0, .inr (4, [.ref (ac0 1)])), (ac0 1, .inl (g.2.1, 60, .inl (lf K00))), (q2, .inl (g.2.1, 61, .inl (lf z0))), wO g q3 rr, (q4, .inl (g.2.1, 120, .inl (lf z0))), (q5, .inl (g.2.1, 120, .inl (lf z0))), (q6, .inl (g.2.1, 120, .inl (lf z0))), (q7, .inl (g.2.1, 120, .inl (lf z0))), (q8, .inl (g.2.1, 120, .inl (lf z0))), (q9, .inl (g.2.1, 120, .inl (lf z0)))]) ++ wR g rr (fun _ => z0)) H locs := Z
  refine W.widen (k := 70) (n := 4562) (Nat.le_of_ble_eq_true rfl) (Nat.le_of_ble_eq_true rfl) ?_
  refine x_putF C Z hin 0 (ws2 := ((h, .inr (1, [.ref (ac0 0), .ref q2, .ref q3, .ref q4, .ref q5, .ref q6, .ref q7, .ref q8, .ref q9, .null, .int 0, .int 0, .int 0])) :: [(ac0 0, .inr (4, [.ref (ac0 1)])), (ac0 1, .inl (g.2.1, 60, .inl (lf K00))), (q2, .inl (g.2.1, 61, .inl (lf z0))), wO g q3 rr, (q4, .inl (g.2.1, 120, .inl (lf z0))), (q5, .inl (g.2.1, 120, .inl (lf z0))), (q6, .inl (g.2.1, 120, .inl (lf z0))), (q7, .inl (g.2.1, 120, .inl (lf z0))), (q8, .inl (g.2.1, 120, .inl (lf z0))), (q9, .inl (g.2.1, 120, .inl (lf z0)))]) ++ wR g rr (fun _ => z0)) rfl rfl i_X1_X1_init tyX1_ok nmX1 (k := 8) (by decide) (List.mem_of_getElem? (i := 17) rfl) rfl rfl rfl rfl (Nat.le_of_ble_eq_true rfl) dX1_init_80 rfl (fun H locs Z => ?_)
  refine lv_aload_n C.1 C.2.1 dX1_init_83 rfl (lv_at hl 0 rfl) ?_
  refine x_bipush C dX1_init_84 (by decide) ?_
  refine x_newa C Z (N := 120) (List.mem_of_getElem? (i := 8) rfl) (by decide) rfl (Nat.le_of_ble_eq_true rfl) (Nat.le_of_ble_eq_true rfl) dX1_init_86 (fun q10 H Z => ?_)
  have Z := Z.perm p3
  have Z : xSt g A s (((h, .inr (1, [.ref (ac0 0), .ref q2, .ref q3, .ref q4, .ref q5, .ref q6, .ref q7, .ref q8, .ref q9, .null, .int 0, .int 0, .int 0])) :: [(ac0 0, .inr (4, [.ref (ac0 1)])), (ac0 1, .inl (g.2.1, 60, .inl (lf K00))), (q2, .inl (g.2.1, 61, .inl (lf z0))), wO g q3 rr, (q4, .inl (g.2.1, 120, .inl (lf z0))), (q5, .inl (g.2.1, 120, .inl (lf z0))), (q6, .inl (g.2.1, 120, .inl (lf z0))), (q7, .inl (g.2.1, 120, .inl (lf z0))), (q8, .inl (g.2.1, 120, .inl (lf z0))), (q9, .inl (g.2.1, 120, .inl (lf z0))), (q10, .inl (g.2.1, 120, .inl (lf z0)))]) ++ wR g rr (fun _ => z0)) H locs := Z
  refine W.widen (k := 71) (n := 4682) (Nat.le_of_ble_eq_true rfl) (Nat.le_of_ble_eq_true rfl) ?_
  refine x_putF C Z hin 0 (ws2 := ((h, .inr (1, [.ref (ac0 0), .ref q2, .ref q3, .ref q4, .ref q5, .ref q6, .ref q7, .ref q8, .ref q9, .ref q10, .int 0, .int 0, .int 0])) :: [(ac0 0, .inr (4, [.ref (ac0 1)])), (ac0 1, .inl (g.2.1, 60, .inl (lf K00))), (q2, .inl (g.2.1, 61, .inl (lf z0))), wO g q3 rr, (q4, .inl (g.2.1, 120, .inl (lf z0))), (q5, .inl (g.2.1, 120, .inl (lf z0))), (q6, .inl (g.2.1, 120, .inl (lf z0))), (q7, .inl (g.2.1, 120, .inl (lf z0))), (q8, .inl (g.2.1, 120, .inl (lf z0))), (q9, .inl (g.2.1, 120, .inl (lf z0))), (q10, .inl (g.2.1, 120, .inl (lf z0)))]) ++ wR g rr (fun _ => z0)) rfl rfl i_X1_X1_init tyX1_ok nmX1 (k := 9) (by decide) (List.mem_of_getElem? (i := 18) rfl) rfl rfl rfl rfl (Nat.le_of_ble_eq_true rfl) dX1_init_88 rfl (fun H locs Z => ?_)
  refine lv_aload_n C.1 C.2.1 dX1_init_91 rfl (lv_at hl 0 rfl) ?_
  refine x_iconst C dX1_init_92 ?_
  refine x_put C Z 0 (ws2 := ((h, .inr (1, [.ref (ac0 0), .ref q2, .ref q3, .ref q4, .ref q5, .ref q6, .ref q7, .ref q8, .ref q9, .ref q10, .int (iI 0), .int 0, .int 0])) :: [(ac0 0, .inr (4, [.ref (ac0 1)])), (ac0 1, .inl (g.2.1, 60, .inl (lf K00))), (q2, .inl (g.2.1, 61, .inl (lf z0))), wO g q3 rr, (q4, .inl (g.2.1, 120, .inl (lf z0))), (q5, .inl (g.2.1, 120, .inl (lf z0))), (q6, .inl (g.2.1, 120, .inl (lf z0))), (q7, .inl (g.2.1, 120, .inl (lf z0))), (q8, .inl (g.2.1, 120, .inl (lf z0))), (q9, .inl (g.2.1, 120, .inl (lf z0))), (q10, .inl (g.2.1, 120, .inl (lf z0)))]) ++ wR g rr (fun _ => z0)) rfl rfl i_X1_X1_init tyX1_ok nmX1 (k := 10) (by decide) (List.mem_of_getElem? (i := 19) rfl) rfl rfl (Nat.le_of_ble_eq_true rfl) dX1_init_93 rfl (fun H locs Z => ?_)
  refine lv_aload_n C.1 C.2.1 dX1_init_96 rfl (lv_at hl 0 rfl) ?_
  refine x_iconst C dX1_init_97 ?_
  refine x_put C Z 0 (ws2 := ((h, .inr (1, [.ref (ac0 0), .ref q2, .ref q3, .ref q4, .ref q5, .ref q6, .ref q7, .ref q8, .ref q9, .ref q10, .int (iI 0), .int (iI 0), .int 0])) :: [(ac0 0, .inr (4, [.ref (ac0 1)])), (ac0 1, .inl (g.2.1, 60, .inl (lf K00))), (q2, .inl (g.2.1, 61, .inl (lf z0))), wO g q3 rr, (q4, .inl (g.2.1, 120, .inl (lf z0))), (q5, .inl (g.2.1, 120, .inl (lf z0))), (q6, .inl (g.2.1, 120, .inl (lf z0))), (q7, .inl (g.2.1, 120, .inl (lf z0))), (q8, .inl (g.2.1, 120, .inl (lf z0))), (q9, .inl (g.2.1, 120, .inl (lf z0))), (q10, .inl (g.2.1, 120, .inl (lf z0)))]) ++ wR g rr (fun _ => z0)) rfl rfl i_X1_X1_init tyX1_ok nmX1 (k := 11) (by decide) (List.mem_of_getElem? (i := 20) rfl) rfl rfl (Nat.le_of_ble_eq_true rfl) dX1_init_98 rfl (fun H locs Z => ?_)
  refine lv_aload_n C.1 C.2.1 dX1_init_101 rfl (lv_at hl 0 rfl) ?_
  refine x_iconst C dX1_init_102 ?_
  refine x_put C Z 0 (ws2 := ((h, .inr (1, [.ref (ac0 0), .ref q2, .ref q3, .ref q4, .ref q5, .ref q6, .ref q7, .ref q8, .ref q9, .ref q10, .int (iI 0), .int (iI 0), .int (iI (-1))])) :: [(ac0 0, .inr (4, [.ref (ac0 1)])), (ac0 1, .inl (g.2.1, 60, .inl (lf K00))), (q2, .inl (g.2.1, 61, .inl (lf z0))), wO g q3 rr, (q4, .inl (g.2.1, 120, .inl (lf z0))), (q5, .inl (g.2.1, 120, .inl (lf z0))), (q6, .inl (g.2.1, 120, .inl (lf z0))), (q7, .inl (g.2.1, 120, .inl (lf z0))), (q8, .inl (g.2.1, 120, .inl (lf z0))), (q9, .inl (g.2.1, 120, .inl (lf z0))), (q10, .inl (g.2.1, 120, .inl (lf z0)))]) ++ wR g rr (fun _ => z0)) rfl rfl i_X1_X1_init tyX1_ok nmX1 (k := 12) (by decide) (List.mem_of_getElem? (i := 21) rfl) rfl rfl (Nat.le_of_ble_eq_true rfl) dX1_init_103 rfl (fun H locs Z => ?_)
  have Z := Z.perm (List.Perm.append_right _ (List.Perm.cons _ (List.perm_append_comm (l₁ := wS g ac0 K00) (l₂ := [(q2, .inl (g.2.1, 61, .inl (lf z0)))] ++ [wO g q3 rr] ++ [(q4, .inl (g.2.1, 120, .inl (lf z0)))] ++ [(q5, .inl (g.2.1, 120, .inl (lf z0)))] ++ [(q6, .inl (g.2.1, 120, .inl (lf z0)))] ++ [(q7, .inl (g.2.1, 120, .inl (lf z0)))] ++ [(q8, .inl (g.2.1, 120, .inl (lf z0)))] ++ [(q9, .inl (g.2.1, 120, .inl (lf z0)))] ++ [(q10, .inl (g.2.1, 120, .inl (lf z0)))]))))
  exact hRet _ _ _ _ _ ⟨fun i => [h, q2, q3, q4, q5, q6, q7, q8, q9, q10].getD i 0, ac0, rr, rfl, rfl⟩ Z dX1_init_106
