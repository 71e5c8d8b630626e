def T00 : TxtS := (z0, z0, z0, z0, z0, 0, 0, -1)
def H00 : HisS := (z0, z0, z0, z0, 1)
def P00 : PadS := (z0, 0)
def K00 : SwpS := z0
def B00 : BegS := (z0, z0, 0, -1)
def C00 : ClsS := (z0, (fun _ => z0), z0, z0, z0, z0, z0, z0, z0, 0, 0, -1)
def V00 : MvS := (up z0 0 (-6), z0, z0, z0, 1, 0)
def Q00 : MpS := (z0, 0)
def M00 : MtS := (z0, z0, z0, z0, z0, z0, z0)
def S00 : MsS := (z0, z0)
def D00 : McS := (z0, z0, z0, z0, 0)
theorem p3 {X Y Z : va_W} : ((X ++ Z) ++ Y).Perm ((X ++ Y) ++ Z) := by
  rw [List.append_assoc, List.append_assoc]
  exact List.Perm.append_left X List.perm_append_comm
theorem p4 {X Y Z : va_W} : (X ++ (Y ++ Z)).Perm ((X ++ Y) ++ Z) := by
  rw [List.append_assoc]
abbrev w6 (g : xG) (aF aH aP aT aC aK aB aQ aU aV aS aR rr : Nat → Nat) (sF : Int) (sH : HisS) (sP : PadS) (sT : TxtS) (sC : ClsS) (sK : SwpS) (sB : BegS) (sQ sU sV : TxtS) (sS sR : SwpS) : va_W := (wF g aF (aH 0) (aP 0) (aT 0) (aC 0) (aB 0) (aQ 0) (aU 0) (aV 0) (aS 0) (aR 0) sF ++ (wH g aH sH ++ (wP g aP sP ++ (wT g aT sT ++ (wC g aC (aK 0) rr sC ++ (wS g aK sK ++ (wB g aB sB ++ (wT g aQ sQ ++ (wT g aU sU ++ (wT g aV sV ++ (wS g aS sS ++ wS g aR sR))))))))))) ++ wR g rr sC.classOf
abbrev rmX0_init : Room := { frames := 1, cells := 2, slots := 120, locals := 20 }
theorem yc_X0 : xYc yX0_init cX0_init 1 wsX0_init rmX0_init 2 120 := ⟨⟨_, rfl⟩, by decide +kernel, rfl, rfl, rfl⟩
theorem i_X0_X0_init : ∀ w ∈ u_ws RX0 TX0 4, w ∈ wsX0_init := fun _ h => List.mem_cons_of_mem _ (List.mem_append_right _ h)
set_option maxHeartbeats 4000000 in
set_option maxRecDepth 100000 in
theorem k_X0_init (l : Launch) (g : xG) (h : Nat) : xMc l yX0_init wsX0_init rmX0_init g h [(h, .inr (0, [.null, .null, .int 0, .int 0]))] 2 120 (fun w => ∃ a : Nat → Nat, a 0 = h ∧ w = wB g a B00) := by
  refine x_ofW_c (own := RX0) (by decide) rfl rfl rfl (Nat.le_of_ble_eq_true rfl) ?_
  intro p e s m args below meth c ls A QQ C hE hin hRet Z hl
  generalize hH : s.heap = H at Z ⊢
  generalize hLo : ([] : List Loc) = locs at Z ⊢
  have hl : lv_has ls 1 [(0, .ref h)] := hl
  have Z : xSt g A s ((h, .inr (0, [.null, .null, .int 0, .int 0])) :: ([] : va_W)) H locs := Z
  refine lv_aload_n C.1 C.2.1 dX0_init_0 rfl (lv_at hl 0 rfl) ?_
  refine x_objinit C hl.1 (List.mem_of_getElem? (i := 1) rfl) (List.mem_of_getElem? (i := 2) rfl) (List.mem_of_getElem? (i := 3) rfl) (Nat.le_of_ble_eq_true rfl) (Nat.le_of_ble_eq_true rfl) (Nat.le_of_ble_eq_true rfl) dX0_init_1 ?_
  refine lv_aload_n C.1 C.2.1 dX0_init_4 rfl (lv_at hl 0 rfl) ?_
  refine x_bipush C dX0_init_5 (by decide) ?_
  refine x_newa C Z (N := 60) (List.mem_of_getElem? (i := 4) rfl) (by decide) rfl (Nat.le_of_ble_eq_true rfl) (Nat.le_of_ble_eq_true rfl) dX0_init_7 (fun q1 H Z => ?_)
  have Z : xSt g A s ((h, .inr (0, [.null, .null, .int 0, .int 0])) :: ([(q1, .inl (g.2.1, 60, .inl (lf z0)))])) H locs := Z
  refine W.widen (k := 1) (n := 60) (Nat.le_of_ble_eq_true rfl) (Nat.le_of_ble_eq_true rfl) ?_
  refine x_putF C Z hin 0 (ws2 := (h, .inr (0, [.ref q1, .null, .int 0, .int 0])) :: ([(q1, .inl (g.2.1, 60, .inl (lf z0)))])) rfl rfl i_X0_X0_init tyX0_ok nmX0 (k := 0) (by decide) (List.mem_of_getElem? (i := 5) rfl) rfl rfl rfl rfl (Nat.le_of_ble_eq_true rfl) dX0_init_9 rfl (fun H locs Z => ?_)
  refine lv_aload_n C.1 C.2.1 dX0_init_12 rfl (lv_at hl 0 rfl) ?_
  refine x_bipush C dX0_init_13 (by decide) ?_
  refine x_newa C Z (N := 60) (List.mem_of_getElem? (i := 4) rfl) (by decide) rfl (Nat.le_of_ble_eq_true rfl) (Nat.le_of_ble_eq_true rfl) dX0_init_15 (fun q2 H Z => ?_)
  have Z : xSt g A s ((h, .inr (0, [.ref q1, .null, .int 0, .int 0])) :: ([(q1, .inl (g.2.1, 60, .inl (lf z0)))] ++ ([(q2, .inl (g.2.1, 60, .inl (lf z0)))]))) H locs := Z
  refine W.widen (k := 2) (n := 120) (Nat.le_of_ble_eq_true rfl) (Nat.le_of_ble_eq_true rfl) ?_
  refine x_putF C Z hin 0 (ws2 := (h, .inr (0, [.ref q1, .ref q2, .int 0, .int 0])) :: ([(q1, .inl (g.2.1, 60, .inl (lf z0)))] ++ ([(q2, .inl (g.2.1, 60, .inl (lf z0)))]))) rfl rfl i_X0_X0_init tyX0_ok nmX0 (k := 1) (by decide) (List.mem_of_getElem? (i := 6) rfl) rfl rfl rfl rfl (Nat.le_of_ble_eq_true rfl) dX0_init_17 rfl (fun H locs Z => ?_)
  refine lv_aload_n C.1 C.2.1 dX0_init_20 rfl (lv_at hl 0 rfl) ?_
  refine x_iconst C dX0_init_21 ?_
  refine x_put C Z 0 (ws2 := (h, .inr (0, [.ref q1, .ref q2, .int (iI 0), .int 0])) :: ([(q1, .inl (g.2.1, 60, .inl (lf z0)))] ++ ([(q2, .inl (g.2.1, 60, .inl (lf z0)))]))) rfl rfl i_X0_X0_init tyX0_ok nmX0 (k := 2) (by decide) (List.mem_of_getElem? (i := 7) rfl) rfl rfl (Nat.le_of_ble_eq_true rfl) dX0_init_22 rfl (fun H locs Z => ?_)
  refine lv_aload_n C.1 C.2.1 dX0_init_25 rfl (lv_at hl 0 rfl) ?_
  refine x_iconst C dX0_init_26 ?_
  refine x_put C Z 0 (ws2 := (h, .inr (0, [.ref q1, .ref q2, .int (iI 0), .int (iI (-1))])) :: ([(q1, .inl (g.2.1, 60, .inl (lf z0)))] ++ ([(q2, .inl (g.2.1, 60, .inl (lf z0)))]))) rfl rfl i_X0_X0_init tyX0_ok nmX0 (k := 3) (by decide) (List.mem_of_getElem? (i := 8) rfl) rfl rfl (Nat.le_of_ble_eq_true rfl) dX0_init_27 rfl (fun H locs Z => ?_)
  exact hRet _ _ _ _ _ ⟨fun i => [h, q1, q2].getD i 0, rfl, rfl⟩ Z dX0_init_30
abbrev rmX2_init : Room := { frames := 1, cells := 4, slots := 1600, locals := 20 }
theorem yc_X2 : xYc yX2_init cX2_init 1 wsX2_init rmX2_init 4 1600 := ⟨⟨_, rfl⟩, by decide +kernel, rfl, rfl, rfl⟩
theorem i_X2_X2_init : ∀ w ∈ u_ws RX2 TX2 5, w ∈ wsX2_init := fun _ h => List.mem_cons_of_mem _ (List.mem_append_right _ h)
set_option maxHeartbeats 4000000 in
set_option maxRecDepth 100000 in
theorem k_X2_init (l : Launch) (g : xG) (h : Nat) : xMc l yX2_init wsX2_init rmX2_init g h [(h, .inr (2, [.null, .null, .null, .null, .int 0]))] 4 1600 (fun w => ∃ a : Nat → Nat, a 0 = h ∧ w = wH g a H00) := by
  refine x_ofW_c (own := RX2) (by decide) rfl rfl rfl (Nat.le_of_ble_eq_true rfl) ?_
  intro p e s m args below meth c ls A QQ C hE hin hRet Z hl
  generalize hH : s.heap = H at Z ⊢
  generalize hLo : ([] : List Loc) = locs at Z ⊢
  have hl : lv_has ls 1 [(0, .ref h)] := hl
  have Z : xSt g A s ((h, .inr (2, [.null, .null, .null, .null, .int 0])) :: ([] : va_W)) H locs := Z
  refine lv_aload_n C.1 C.2.1 dX2_init_0 rfl (lv_at hl 0 rfl) ?_
  refine x_objinit C hl.1 (List.mem_of_getElem? (i := 1) rfl) (List.mem_of_getElem? (i := 2) rfl) (List.mem_of_getElem? (i := 3) rfl) (Nat.le_of_ble_eq_true rfl) (Nat.le_of_ble_eq_true rfl) (Nat.le_of_ble_eq_true rfl) dX2_init_1 ?_
  refine lv_aload_n C.1 C.2.1 dX2_init_4 rfl (lv_at hl 0 rfl) ?_
  refine x_sipush C dX2_init_5 (by decide) ?_
  refine x_newa C Z (N := 400) (List.mem_of_getElem? (i := 4) rfl) (by decide) rfl (Nat.le_of_ble_eq_true rfl) (Nat.le_of_ble_eq_true rfl) dX2_init_8 (fun q1 H Z => ?_)
  have Z : xSt g A s ((h, .inr (2, [.null, .null, .null, .null, .int 0])) :: ([(q1, .inl (g.2.1, 400, .inl (lf z0)))])) H locs := Z
  refine W.widen (k := 1) (n := 400) (Nat.le_of_ble_eq_true rfl) (Nat.le_of_ble_eq_true rfl) ?_
  refine x_putF C Z hin 0 (ws2 := (h, .inr (2, [.ref q1, .null, .null, .null, .int 0])) :: ([(q1, .inl (g.2.1, 400, .inl (lf z0)))])) rfl rfl i_X2_X2_init tyX2_ok nmX2 (k := 0) (by decide) (List.mem_of_getElem? (i := 5) rfl) rfl rfl rfl rfl (Nat.le_of_ble_eq_true rfl) dX2_init_10 rfl (fun H locs Z => ?_)
  refine lv_aload_n C.1 C.2.1 dX2_init_13 rfl (lv_at hl 0 rfl) ?_
  refine x_sipush C dX2_init_14 (by decide) ?_
  refine x_newa C Z (N := 400) (List.mem_of_getElem? (i := 4) rfl) (by decide) rfl (Nat.le_of_ble_eq_true rfl) (Nat.le_of_ble_eq_true rfl) dX2_init_17 (fun q2 H Z => ?_)
  have Z : xSt g A s ((h, .inr (2, [.ref q1, .null, .null, .null, .int 0])) :: ([(q1, .inl (g.2.1, 400, .inl (lf z0)))] ++ ([(q2, .inl (g.2.1, 400, .inl (lf z0)))]))) H locs := Z
  refine W.widen (k := 2) (n := 800) (Nat.le_of_ble_eq_true rfl) (Nat.le_of_ble_eq_true rfl) ?_
  refine x_putF C Z hin 0 (ws2 := (h, .inr (2, [.ref q1, .ref q2, .null, .null, .int 0])) :: ([(q1, .inl (g.2.1, 400, .inl (lf z0)))] ++ ([(q2, .inl (g.2.1, 400, .inl (lf z0)))]))) rfl rfl i_X2_X2_init tyX2_ok nmX2 (k := 1) (by decide) (List.mem_of_getElem? (i := 6) rfl) rfl rfl rfl rfl (Nat.le_of_ble_eq_true rfl) dX2_init_19 rfl (fun H locs Z => ?_)
  refine lv_aload_n C.1 C.2.1 dX2_init_22 rfl (lv_at hl 0 rfl) ?_
  refine x_sipush C dX2_init_23 (by decide) ?_
  refine x_newa C Z (N := 400) (List.mem_of_getElem? (i := 4) rfl) (by decide) rfl (Nat.le_of_ble_eq_true rfl) (Nat.le_of_ble_eq_true rfl) dX2_init_26 (fun q3 H Z => ?_)
  have Z : xSt g A s ((h, .inr (2, [.ref q1, .ref q2, .null, .null, .int 0])) :: ([(q1, .inl (g.2.1, 400, .inl (lf z0)))] ++ ([(q2, .inl (g.2.1, 400, .inl (lf z0)))] ++ ([(q3, .inl (g.2.1, 400, .inl (lf z0)))])))) H locs := Z
  refine W.widen (k := 3) (n := 1200) (Nat.le_of_ble_eq_true rfl) (Nat.le_of_ble_eq_true rfl) ?_
  refine x_putF C Z hin 0 (ws2 := (h, .inr (2, [.ref q1, .ref q2, .ref q3, .null, .int 0])) :: ([(q1, .inl (g.2.1, 400, .inl (lf z0)))] ++ ([(q2, .inl (g.2.1, 400, .inl (lf z0)))] ++ ([(q3, .inl (g.2.1, 400, .inl (lf z0)))])))) rfl rfl i_X2_X2_init tyX2_ok nmX2 (k := 2) (by decide) (List.mem_of_getElem? (i := 7) rfl) rfl rfl rfl rfl (Nat.le_of_ble_eq_true rfl) dX2_init_28 rfl (fun H locs Z => ?_)
  refine lv_aload_n C.1 C.2.1 dX2_init_31 rfl (lv_at hl 0 rfl) ?_
  refine x_sipush C dX2_init_32 (by decide) ?_
  refine x_newa C Z (N := 400) (List.mem_of_getElem? (i := 4) rfl) (by decide) rfl (Nat.le_of_ble_eq_true rfl) (Nat.le_of_ble_eq_true rfl) dX2_init_35 (fun q4 H Z => ?_)
  have Z : xSt g A s ((h, .inr (2, [.ref q1, .ref q2, .ref q3, .null, .int 0])) :: ([(q1, .inl (g.2.1, 400, .inl (lf z0)))] ++ ([(q2, .inl (g.2.1, 400, .inl (lf z0)))] ++ ([(q3, .inl (g.2.1, 400, .inl (lf z0)))] ++ ([(q4, .inl (g.2.1, 400, .inl (lf z0)))]))))) H locs := Z
  refine W.widen (k := 4) (n := 1600) (Nat.le_of_ble_eq_true rfl) (Nat.le_of_ble_eq_true rfl) ?_
  refine x_putF C Z hin 0 (ws2 := (h, .inr (2, [.ref q1, .ref q2, .ref q3, .ref q4, .int 0])) :: ([(q1, .inl (g.2.1, 400, .inl (lf z0)))] ++ ([(q2, .inl (g.2.1, 400, .inl (lf z0)))] ++ ([(q3, .inl (g.2.1, 400, .inl (lf z0)))] ++ ([(q4, .inl (g.2.1, 400, .inl (lf z0)))]))))) rfl rfl i_X2_X2_init tyX2_ok nmX2 (k := 3) (by decide) (List.mem_of_getElem? (i := 8) rfl) rfl rfl rfl rfl (Nat.le_of_ble_eq_true rfl) dX2_init_37 rfl (fun H locs Z => ?_)
  refine lv_aload_n C.1 C.2.1 dX2_init_40 rfl (lv_at hl 0 rfl) ?_
  refine x_iconst C dX2_init_41 ?_
  refine x_put C Z 0 (ws2 := (h, .inr (2, [.ref q1, .ref q2, .ref q3, .ref q4, .int (iI 1)])) :: ([(q1, .inl (g.2.1, 400, .inl (lf z0)))] ++ ([(q2, .inl (g.2.1, 400, .inl (lf z0)))] ++ ([(q3, .inl (g.2.1, 400, .inl (lf z0)))] ++ ([(q4, .inl (g.2.1, 400, .inl (lf z0)))]))))) rfl rfl i_X2_X2_init tyX2_ok nmX2 (k := 4) (by decide) (List.mem_of_getElem? (i := 9) rfl) rfl rfl (Nat.le_of_ble_eq_true rfl) dX2_init_42 rfl (fun H locs Z => ?_)
  exact hRet _ _ _ _ _ ⟨fun i => [h, q1, q2, q3, q4].getD i 0, rfl, rfl⟩ Z dX2_init_45
abbrev rmX3_init : Room := { frames := 1, cells := 1, slots := 60, locals := 20 }
theorem yc_X3 : xYc yX3_init cX3_init 1 wsX3_init rmX3_init 1 60 := ⟨⟨_, rfl⟩, by decide +kernel, rfl, rfl, rfl⟩
theorem i_X3_X3_init : ∀ w ∈ u_ws RX3 TX3 2, w ∈ wsX3_init := fun _ h => List.mem_cons_of_mem _ (List.mem_append_right _ h)
set_option maxHeartbeats 4000000 in
set_option maxRecDepth 100000 in
theorem k_X3_init (l : Launch) (g : xG) (h : Nat) : xMc l yX3_init wsX3_init rmX3_init g h [(h, .inr (3, [.null, .int 0]))] 1 60 (fun w => ∃ a : Nat → Nat, a 0 = h ∧ w = wP g a P00) := by
  refine x_ofW_c (own := RX3) (by decide) rfl rfl rfl (Nat.le_of_ble_eq_true rfl) ?_
  intro p e s m args below meth c ls A QQ C hE hin hRet Z hl
  generalize hH : s.heap = H at Z ⊢
  generalize hLo : ([] : List Loc) = locs at Z ⊢
  have hl : lv_has ls 1 [(0, .ref h)] := hl
  have Z : xSt g A s ((h, .inr (3, [.null, .int 0])) :: ([] : va_W)) H locs := Z
  refine lv_aload_n C.1 C.2.1 dX3_init_0 rfl (lv_at hl 0 rfl) ?_
  refine x_objinit C hl.1 (List.mem_of_getElem? (i := 1) rfl) (List.mem_of_getElem? (i := 2) rfl) (List.mem_of_getElem? (i := 3) rfl) (Nat.le_of_ble_eq_true rfl) (Nat.le_of_ble_eq_true rfl) (Nat.le_of_ble_eq_true rfl) dX3_init_1 ?_
  refine lv_aload_n C.1 C.2.1 dX3_init_4 rfl (lv_at hl 0 rfl) ?_
  refine x_bipush C dX3_init_5 (by decide) ?_
  refine x_newa C Z (N := 60) (List.mem_of_getElem? (i := 4) rfl) (by decide) rfl (Nat.le_of_ble_eq_true rfl) (Nat.le_of_ble_eq_true rfl) dX3_init_7 (fun q1 H Z => ?_)
  have Z : xSt g A s ((h, .inr (3, [.null, .int 0])) :: ([(q1, .inl (g.2.1, 60, .inl (lf z0)))])) H locs := Z
  refine W.widen (k := 1) (n := 60) (Nat.le_of_ble_eq_true rfl) (Nat.le_of_ble_eq_true rfl) ?_
  refine x_putF C Z hin 0 (ws2 := (h, .inr (3, [.ref q1, .int 0])) :: ([(q1, .inl (g.2.1, 60, .inl (lf z0)))])) rfl rfl i_X3_X3_init tyX3_ok nmX3 (k := 0) (by decide) (List.mem_of_getElem? (i := 5) rfl) rfl rfl rfl rfl (Nat.le_of_ble_eq_true rfl) dX3_init_9 rfl (fun H locs Z => ?_)
  refine lv_aload_n C.1 C.2.1 dX3_init_12 rfl (lv_at hl 0 rfl) ?_
  refine x_iconst C dX3_init_13 ?_
  refine x_put C Z 0 (ws2 := (h, .inr (3, [.ref q1, .int (iI 0)])) :: ([(q1, .inl (g.2.1, 60, .inl (lf z0)))])) rfl rfl i_X3_X3_init tyX3_ok nmX3 (k := 1) (by decide) (List.mem_of_getElem? (i := 6) rfl) rfl rfl (Nat.le_of_ble_eq_true rfl) dX3_init_14 rfl (fun H locs Z => ?_)
  exact hRet _ _ _ _ _ ⟨fun i => [h, q1].getD i 0, rfl, rfl⟩ Z dX3_init_17
abbrev rmX4_init : Room := { frames := 1, cells := 1, slots := 60, locals := 20 }
theorem yc_X4 : xYc yX4_init cX4_init 1 wsX4_init rmX4_init 1 60 := ⟨⟨_, rfl⟩, by decide +kernel, rfl, rfl, rfl⟩
theorem i_X4_X4_init : ∀ w ∈ u_ws RX4 TX4 1, w ∈ wsX4_init := fun _ h => List.mem_cons_of_mem _ (List.mem_append_right _ h)
set_option maxHeartbeats 4000000 in
set_option maxRecDepth 100000 in
theorem k_X4_init (l : Launch) (g : xG) (h : Nat) : xMc l yX4_init wsX4_init rmX4_init g h [(h, .inr (4, [.null]))] 1 60 (fun w => ∃ a : Nat → Nat, a 0 = h ∧ w = wS g a K00) := by
  refine x_ofW_c (own := RX4) (by decide) rfl rfl rfl (Nat.le_of_ble_eq_true rfl) ?_
  intro p e s m args below meth c ls A QQ C hE hin hRet Z hl
  generalize hH : s.heap = H at Z ⊢
  generalize hLo : ([] : List Loc) = locs at Z ⊢
  have hl : lv_has ls 1 [(0, .ref h)] := hl
  have Z : xSt g A s ((h, .inr (4, [.null])) :: ([] : va_W)) H locs := Z
  refine lv_aload_n C.1 C.2.1 dX4_init_0 rfl (lv_at hl 0 rfl) ?_
  refine x_objinit C hl.1 (List.mem_of_getElem? (i := 1) rfl) (List.mem_of_getElem? (i := 2) rfl) (List.mem_of_getElem? (i := 3) rfl) (Nat.le_of_ble_eq_true rfl) (Nat.le_of_ble_eq_true rfl) (Nat.le_of_ble_eq_true rfl) dX4_init_1 ?_
  refine lv_aload_n C.1 C.2.1 dX4_init_4 rfl (lv_at hl 0 rfl) ?_
  refine x_bipush C dX4_init_5 (by decide) ?_
  refine x_newa C Z (N := 60) (List.mem_of_getElem? (i := 4) rfl) (by decide) rfl (Nat.le_of_ble_eq_true rfl) (Nat.le_of_ble_eq_true rfl) dX4_init_7 (fun q1 H Z => ?_)
  have Z : xSt g A s ((h, .inr (4, [.null])) :: ([(q1, .inl (g.2.1, 60, .inl (lf z0)))])) H locs := Z
  refine W.widen (k := 1) (n := 60) (Nat.le_of_ble_eq_true rfl) (Nat.le_of_ble_eq_true rfl) ?_
  refine x_putF C Z hin 0 (ws2 := (h, .inr (4, [.ref q1])) :: ([(q1, .inl (g.2.1, 60, .inl (lf z0)))])) rfl rfl i_X4_X4_init tyX4_ok nmX4 (k := 0) (by decide) (List.mem_of_getElem? (i := 5) rfl) rfl rfl rfl rfl (Nat.le_of_ble_eq_true rfl) dX4_init_9 rfl (fun H locs Z => ?_)
  exact hRet _ _ _ _ _ ⟨fun i => [h, q1].getD i 0, rfl, rfl⟩ Z dX4_init_12
abbrev rmX5_init : Room := { frames := 1, cells := 5, slots := 246, locals := 20 }
theorem yc_X5 : xYc yX5_init cX5_init 1 wsX5_init rmX5_init 5 246 := ⟨⟨_, rfl⟩, by decide +kernel, rfl, rfl, rfl⟩
theorem i_X5_X5_init : ∀ w ∈ u_ws RX5 TX5 8, w ∈ wsX5_init := fun _ h => List.mem_cons_of_mem _ (List.mem_append_right _ h)
set_option maxHeartbeats 4000000 in
set_option maxRecDepth 100000 in
theorem k_X5_init (l : Launch) (g : xG) (h : Nat) : xMc l yX5_init wsX5_init rmX5_init g h [(h, .inr (5, [.null, .null, .null, .null, .null, .int 0, .int 0, .int 0]))] 5 246 (fun w => ∃ a : Nat → Nat, a 0 = h ∧ w = wT g a T00) := by
  refine x_ofW_c (own := RX5) (by decide) rfl rfl rfl (Nat.le_of_ble_eq_true rfl) ?_
  intro p e s m args below meth c ls A QQ C hE hin hRet Z hl
  generalize hH : s.heap = H at Z ⊢
  generalize hLo : ([] : List Loc) = locs at Z ⊢
  have hl : lv_has ls 1 [(0, .ref h)] := hl
  have Z : xSt g A s ((h, .inr (5, [.null, .null, .null, .null, .null, .int 0, .int 0, .int 0])) :: ([] : va_W)) H locs := Z
  refine lv_aload_n C.1 C.2.1 dX5_init_0 rfl (lv_at hl 0 rfl) ?_
  refine x_objinit C hl.1 (List.mem_of_getElem? (i := 1) rfl) (List.mem_of_getElem? (i := 2) rfl) (List.mem_of_getElem? (i := 3) rfl) (Nat.le_of_ble_eq_true rfl) (Nat.le_of_ble_eq_true rfl) (Nat.le_of_ble_eq_true rfl) dX5_init_1 ?_
  refine lv_aload_n C.1 C.2.1 dX5_init_4 rfl (lv_at hl 0 rfl) ?_
  refine x_bipush C dX5_init_5 (by decide) ?_
  refine x_newa C Z (N := 60) (List.mem_of_getElem? (i := 4) rfl) (by decide) rfl (Nat.le_of_ble_eq_true rfl) (Nat.le_of_ble_eq_true rfl) dX5_init_7 (fun q1 H Z => ?_)
  have Z : xSt g A s ((h, .inr (5, [.null, .null, .null, .null, .null, .int 0, .int 0, .int 0])) :: ([(q1, .inl (g.2.1, 60, .inl (lf z0)))])) H locs := Z
  refine W.widen (k := 1) (n := 60) (Nat.le_of_ble_eq_true rfl) (Nat.le_of_ble_eq_true rfl) ?_
  refine x_putF C Z hin 0 (ws2 := (h, .inr (5, [.ref q1, .null, .null, .null, .null, .int 0, .int 0, .int 0])) :: ([(q1, .inl (g.2.1, 60, .inl (lf z0)))])) rfl rfl i_X5_X5_init tyX5_ok nmX5 (k := 0) (by decide) (List.mem_of_getElem? (i := 5) rfl) rfl rfl rfl rfl (Nat.le_of_ble_eq_true rfl) dX5_init_9 rfl (fun H locs Z => ?_)
  refine lv_aload_n C.1 C.2.1 dX5_init_12 rfl (lv_at hl 0 rfl) ?_
  refine x_bipush C dX5_init_13 (by decide) ?_
  refine x_newa C Z (N := 60) (List.mem_of_getElem? (i := 4) rfl) (by decide) rfl (Nat.le_of_ble_eq_true rfl) (Nat.le_of_ble_eq_true rfl) dX5_init_15 (fun q2 H Z => ?_)
  have Z : xSt g A s ((h, .inr (5, [.ref q1, .null, .null, .null, .null, .int 0, .int 0, .int 0])) :: ([(q1, .inl (g.2.1, 60, .inl (lf z0)))] ++ ([(q2, .inl (g.2.1, 60, .inl (lf z0)))]))) H locs := Z
  refine W.widen (k := 2) (n := 120) (Nat.le_of_ble_eq_true rfl) (Nat.le_of_ble_eq_true rfl) ?_
  refine x_putF C Z hin 0 (ws2 := (h, .inr (5, [.ref q1, .ref q2, .null, .null, .null, .int 0, .int 0, .int 0])) :: ([(q1, .inl (g.2.1, 60, .inl (lf z0)))] ++ ([(q2, .inl (g.2.1, 60, .inl (lf z0)))]))) rfl rfl i_X5_X5_init tyX5_ok nmX5 (k := 1) (by decide) (List.mem_of_getElem? (i := 6) rfl) rfl rfl rfl rfl (Nat.le_of_ble_eq_true rfl) dX5_init_17 rfl (fun H locs Z => ?_)
  refine lv_aload_n C.1 C.2.1 dX5_init_20 rfl (lv_at hl 0 rfl) ?_
  refine x_bipush C dX5_init_21 (by decide) ?_
  refine x_newa C Z (N := 60) (List.mem_of_getElem? (i := 4) rfl) (by decide) rfl (Nat.le_of_ble_eq_true rfl) (Nat.le_of_ble_eq_true rfl) dX5_init_23 (fun q3 H Z => ?_)
  have Z : xSt g A s ((h, .inr (5, [.ref q1, .ref q2, .null, .null, .null, .int 0, .int 0, .int 0])) :: ([(q1, .inl (g.2.1, 60, .inl (lf z0)))] ++ ([(q2, .inl (g.2.1, 60, .inl (lf z0)))] ++ ([(q3, .inl (g.2.1, 60, .inl (lf z0)))])))) H locs := Z
  refine W.widen (k := 3) (n := 180) (Nat.le_of_ble_eq_true rfl) (Nat.le_of_ble_eq_true rfl) ?_
  refine x_putF C Z hin 0 (ws2 := (h, .inr (5, [.ref q1, .ref q2, .ref q3, .null, .null, .int 0, .int 0, .int 0])) :: ([(q1, .inl (g.2.1, 60, .inl (lf z0)))] ++ ([(q2, .inl (g.2.1, 60, .inl (lf z0)))] ++ ([(q3, .inl (g.2.1, 60, .inl (lf z0)))])))) rfl rfl i_X5_X5_init tyX5_ok nmX5 (k := 2) (by decide) (List.mem_of_getElem? (i := 7) rfl) rfl rfl rfl rfl (Nat.le_of_ble_eq_true rfl) dX5_init_25 rfl (fun H locs Z => ?_)
  refine lv_aload_n C.1 C.2.1 dX5_init_28 rfl (lv_at hl 0 rfl) ?_
  refine x_bipush C dX5_init_29 (by decide) ?_
  refine x_newa C Z (N := 60) (List.mem_of_getElem? (i := 4) rfl) (by decide) rfl (Nat.le_of_ble_eq_true rfl) (Nat.le_of_ble_eq_true rfl) dX5_init_31 (fun q4 H Z => ?_)
  have Z : xSt g A s ((h, .inr (5, [.ref q1, .ref q2, .ref q3, .null, .null, .int 0, .int 0, .int 0])) :: ([(q1, .inl (g.2.1, 60, .inl (lf z0)))] ++ ([(q2, .inl (g.2.1, 60, .inl (lf z0)))] ++ ([(q3, .inl (g.2.1, 60, .inl (lf z0)))] ++ ([(q4, .inl (g.2.1, 60, .inl (lf z0)))]))))) H locs := Z
  refine W.widen (k := 4) (n := 240) (Nat.le_of_ble_eq_true rfl) (Nat.le_of_ble_eq_true rfl) ?_
  refine x_putF C Z hin 0 (ws2 := (h, .inr (5, [.ref q1, .ref q2, .ref q3, .ref q4, .null, .int 0, .int 0, .int 0])) :: ([(q1, .inl (g.2.1, 60, .inl (lf z0)))] ++ ([(q2, .inl (g.2.1, 60, .inl (lf z0)))] ++ ([(q3, .inl (g.2.1, 60, .inl (lf z0)))] ++ ([(q4, .inl (g.2.1, 60, .inl (lf z0)))]))))) rfl rfl i_X5_X5_init tyX5_ok nmX5 (k := 3) (by decide) (List.mem_of_getElem? (i := 8) rfl) rfl rfl rfl rfl (Nat.le_of_ble_eq_true rfl) dX5_init_33 rfl (fun H locs Z => ?_)
  refine lv_aload_n C.1 C.2.1 dX5_init_36 rfl (lv_at hl 0 rfl) ?_
  refine x_bipush C dX5_init_37 (by decide) ?_
  refine x_newa C Z (N := 6) (List.mem_of_getElem? (i := 4) rfl) (by decide) rfl (Nat.le_of_ble_eq_true rfl) (Nat.le_of_ble_eq_true rfl) dX5_init_39 (fun q5 H Z => ?_)
  have Z : xSt g A s ((h, .inr (5, [.ref q1, .ref q2, .ref q3, .ref q4, .null, .int 0, .int 0, .int 0])) :: ([(q1, .inl (g.2.1, 60, .inl (lf z0)))] ++ ([(q2, .inl (g.2.1, 60, .inl (lf z0)))] ++ ([(q3, .inl (g.2.1, 60, .inl (lf z0)))] ++ ([(q4, .inl (g.2.1, 60, .inl (lf z0)))] ++ ([(q5, .inl (g.2.1, 6, .inl (lf z0)))])))))) H locs := Z
  refine W.widen (k := 5) (n := 246) (Nat.le_of_ble_eq_true rfl) (Nat.le_of_ble_eq_true rfl) ?_
  refine x_putF C Z hin 0 (ws2 := (h, .inr (5, [.ref q1, .ref q2, .ref q3, .ref q4, .ref q5, .int 0, .int 0, .int 0])) :: ([(q1, .inl (g.2.1, 60, .inl (lf z0)))] ++ ([(q2, .inl (g.2.1, 60, .inl (lf z0)))] ++ ([(q3, .inl (g.2.1, 60, .inl (lf z0)))] ++ ([(q4, .inl (g.2.1, 60, .inl (lf z0)))] ++ ([(q5, .inl (g.2.1, 6, .inl (lf z0)))])))))) rfl rfl i_X5_X5_init tyX5_ok nmX5 (k := 4) (by decide) (List.mem_of_getElem? (i := 9) rfl) rfl rfl rfl rfl (Nat.le_of_ble_eq_true rfl) dX5_init_41 rfl (fun H locs Z => ?_)
  refine lv_aload_n C.1 C.2.1 dX5_init_44 rfl (lv_at hl 0 rfl) ?_
  refine x_iconst C dX5_init_45 ?_
  refine x_put C Z 0 (ws2 := (h, .inr (5, [.ref q1, .ref q2, .ref q3, .ref q4, .ref q5, .int (iI 0), .int 0, .int 0])) :: ([(q1, .inl (g.2.1, 60, .inl (lf z0)))] ++ ([(q2, .inl (g.2.1, 60, .inl (lf z0)))] ++ ([(q3, .inl (g.2.1, 60, .inl (lf z0)))] ++ ([(q4, .inl (g.2.1, 60, .inl (lf z0)))] ++ ([(q5, .inl (g.2.1, 6, .inl (lf z0)))])))))) rfl rfl i_X5_X5_init tyX5_ok nmX5 (k := 5) (by decide) (List.mem_of_getElem? (i := 10) rfl) rfl rfl (Nat.le_of_ble_eq_true rfl) dX5_init_46 rfl (fun H locs Z => ?_)
  refine lv_aload_n C.1 C.2.1 dX5_init_49 rfl (lv_at hl 0 rfl) ?_
  refine x_iconst C dX5_init_50 ?_
  refine x_put C Z 0 (ws2 := (h, .inr (5, [.ref q1, .ref q2, .ref q3, .ref q4, .ref q5, .int (iI 0), .int (iI 0), .int 0])) :: ([(q1, .inl (g.2.1, 60, .inl (lf z0)))] ++ ([(q2, .inl (g.2.1, 60, .inl (lf z0)))] ++ ([(q3, .inl (g.2.1, 60, .inl (lf z0)))] ++ ([(q4, .inl (g.2.1, 60, .inl (lf z0)))] ++ ([(q5, .inl (g.2.1, 6, .inl (lf z0)))])))))) rfl rfl i_X5_X5_init tyX5_ok nmX5 (k := 6) (by decide) (List.mem_of_getElem? (i := 11) rfl) rfl rfl (Nat.le_of_ble_eq_true rfl) dX5_init_51 rfl (fun H locs Z => ?_)
  refine lv_aload_n C.1 C.2.1 dX5_init_54 rfl (lv_at hl 0 rfl) ?_
  refine x_iconst C dX5_init_55 ?_
  refine x_put C Z 0 (ws2 := (h, .inr (5, [.ref q1, .ref q2, .ref q3, .ref q4, .ref q5, .int (iI 0), .int (iI 0), .int (iI (-1))])) :: ([(q1, .inl (g.2.1, 60, .inl (lf z0)))] ++ ([(q2, .inl (g.2.1, 60, .inl (lf z0)))] ++ ([(q3, .inl (g.2.1, 60, .inl (lf z0)))] ++ ([(q4, .inl (g.2.1, 60, .inl (lf z0)))] ++ ([(q5, .inl (g.2.1, 6, .inl (lf z0)))])))))) rfl rfl i_X5_X5_init tyX5_ok nmX5 (k := 7) (by decide) (List.mem_of_getElem? (i := 12) rfl) rfl rfl (Nat.le_of_ble_eq_true rfl) dX5_init_56 rfl (fun H locs Z => ?_)
  exact hRet _ _ _ _ _ ⟨fun i => [h, q1, q2, q3, q4, q5].getD i 0, rfl, rfl⟩ Z dX5_init_59
