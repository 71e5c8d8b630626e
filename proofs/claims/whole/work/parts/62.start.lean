/-! THE CLAIM OUT OF ONE WALK OF THE LAW'S BODY. Your part is whole_start (and what it stands on); all else here is the same for every law, but numbers. -/
def R_law : String := "FactorBranchesLaw"
def lw_P (b : Addr) (xs : List Int32) (args : Array Value) (s : State) : Prop := args = #[.ref b] ∧ s.IntsAt b xs ∧ xs.length ≤ 1536 ∧ (Jvm.Cond.and given_1 narrow_1).before args s = true
def lw_Q (_ : Array Value) (s : State) (o : Outcome) (t : State) : Prop := o = .returned (some (.int 1)) ∧ Framed s o t [] 600000 7302250
def lw_Z (below : List Frame) (a : Array Value) (s : State) : State → Prop := fun t => ∃ o, t.status = .running ∧ Ended t below o ∧ lw_Q a s o t
/-- the law's own end, with 1 on the stack, nothing written that was there before, its room as the claim has it -/
theorem lw_ret {p : Program} {l : Launch} {e : Env} {s : State} {m : MethodId} {below : List Frame} {meth : Method} {c : Code} {b : Nat} (hx : p.tables.exec = Jvm.exec) (hb : c.code = code) (hr : meth.sig.returnType = ret) (hlocks : meth.locks = false) {pc : Nat} {H : Heap} {ls : Array Slot} (hdg : decode code pc = .ok (.ireturn, 1)) : W p l e room_1 s m #[Value.ref b] below meth c H [] 600000 7302250 (lw_Z below #[Value.ref b] s) (F0 m pc ls [.int 1]) := by
  intro T hT X
  obtain ⟨fs, hret, hrun, hended, hW, hframe⟩ := X.leave (v := some (.int 1)) (hlocks := hlocks) (fun h => by rw [hr] at h; cases h)
  have hmeth' : T.vm.method? m = some meth := X.method'
  refine ⟨T.setFrames fs, ?_, .returned (some (.int 1)), hrun, hended, rfl, ⟨_, rfl⟩, hW, hframe⟩
  jvm_step X.here [X.here.top, hx, hb, hdg, hmeth', hr, ret, narrow_b1]
  (try refine ⟨rfl, ?_⟩); (try refine ⟨rfl, ?_⟩)
  first | (intro acts; rw [hret _ acts rfl rfl rfl]) | rw [hret _ _ rfl rfl rfl]
  exact Steps.refl _
/-- what holds at the law's entry: the machine, the code, the tables' words (any of lw_tbl by 'hts w (by decide +kernel)'), the script of L ints xs at the cell b, what the Statement gives of the start (any of its parts by flat_of_before) -/
def lw_At (p : Program) (s : State) (m : MethodId) (meth : Method) (c : Code) (b L : Nat) (xs : Nat → Int32) : Prop :=
  p.tables.exec = Jvm.exec ∧ c.code = code ∧ meth.sig.returnType = ret ∧ c.maxLocals = 4 ∧ s.vm.findClass R_law = some m.cls ∧ (∀ w ∈ lw_tbl, w.before #[Value.ref b] s = true) ∧ va_X b L xs s s.heap ∧ b < s.heap.size ∧ meth.locks = false ∧ (Jvm.Cond.and given_1 narrow_1).before #[Value.ref b] s = true
theorem R00 : Rel 0 H00 P00 T00 C00 B00 T00 T00 V00 Q00 := by
  have hH : HH H00 := by
    refine ⟨⟨by decide, by decide⟩, ⟨rfl, rfl⟩, fun i h1 h2 => ⟨(by decide : (0 : Int) ≤ 0), (by decide : (0 : Int) ≤ 6), (by decide : (0 : Int) ≤ 0), (by decide : (0 : Int) ≤ 60)⟩, ?_⟩
    intro i h1 h2
    exact absurd (show i < 1 from h2) (by omega)
  have hV : HV H00 V00 := by
    refine ⟨rfl, rfl, fun i _ _ => ⟨rfl, rfl⟩, fun i h1 h2 => absurd (show i < 1 from h2) (by omega)⟩
  exact ⟨⟨hH, hV, rfl, by decide, by decide⟩, PR_0 (P := P00) (M := Q00), TxI_m hH rfl, ClI_m hH rfl, BgI_m hH rfl, TxI_m hH rfl, TxI_m hH rfl⟩
theorem va_known8 {s : State} {args : Array Value} (hts : ∀ w ∈ lw_tbl, w.before args s = true) : ∃ (dC : Nat → ClassId) (dI : Nat → Nat → Nat), ∀ (k : Nat) (q : vw_C), vwCl[k]? = some q → u_Kn s q.1 q.2.1 q.2.2 (dC k) (dI k) := by
  obtain ⟨c0, i0, h0⟩ := u_known (C := RX0) (T := TX0) (N := 4) (n := 4) hts inX0 (hts _ (wsL_law_r2_in (.instantiable RX0 4) (List.mem_of_getElem? (i := 5) rfl)))
  obtain ⟨c1, i1, h1⟩ := u_known (C := RX1) (T := TX1) (N := 13) (n := 13) hts inX1 (hts _ (wsL_law_r2_in (.instantiable RX1 13) (List.mem_of_getElem? (i := 1) rfl)))
  obtain ⟨c2, i2, h2⟩ := u_known (C := RX2) (T := TX2) (N := 5) (n := 5) hts inX2 (hts _ (wsL_law_r1_in (.instantiable RX2 5) (List.mem_of_getElem? (i := 13) rfl)))
  obtain ⟨c3, i3, h3⟩ := u_known (C := RX3) (T := TX3) (N := 2) (n := 2) hts inX3 (hts _ (wsL_law_r1_in (.instantiable RX3 2) (List.mem_of_getElem? (i := 17) rfl)))
  obtain ⟨c4, i4, h4⟩ := u_known (C := RX4) (T := TX4) (N := 1) (n := 1) hts inX4 (hts _ (wsL_law_r2_in (.instantiable RX4 1) (List.mem_of_getElem? (i := 12) rfl)))
  obtain ⟨c5, i5, h5⟩ := u_known (C := RX5) (T := TX5) (N := 8) (n := 8) hts inX5 (hts _ (wsL_law_r1_in (.instantiable RX5 8) (List.mem_of_getElem? (i := 21) rfl)))
  obtain ⟨c6, i6, h6⟩ := u_known (C := RX6) (T := TX6) (N := 11) (n := 11) hts inX6 (hts _ (wsL_law_r1_in (.instantiable RX6 11) (List.mem_of_getElem? (i := 1) rfl)))
  obtain ⟨c7, i7, h7⟩ := u_known (C := RX7) (T := TX7) (N := 23) (n := 23) hts inX7 (hts _ (wsL_law_r1_in (.instantiable RX7 23) (List.mem_of_getElem? (i := 4) rfl)))
  refine ⟨fun k => [c0, c1, c2, c3, c4, c5, c6, c7].getD k c0, fun k => [i0, i1, i2, i3, i4, i5, i6, i7].getD k i0, ?_⟩
  intro k q hq
  match k, hq with
  | 0, hq => cases hq; exact h0
  | 1, hq => cases hq; exact h1
  | 2, hq => cases hq; exact h2
  | 3, hq => cases hq; exact h3
  | 4, hq => cases hq; exact h4
  | 5, hq => cases hq; exact h5
  | 6, hq => cases hq; exact h6
  | 7, hq => cases hq; exact h7
  | k + 8, hq => simp [vwCl] at hq
theorem lw_glob {s : State} {args : Array Value} (hts : ∀ w ∈ lw_tbl, w.before args s = true) : ∃ g : xG, xK g s ∧ xN s ∧ xE g s := by
  obtain ⟨dC, dI, hKc⟩ := va_known8 hts
  obtain ⟨cI, kI, cc, hcI, hkI, hkindI⟩ := Cond.arrayClass_spec (hts (.arrayClass .int) (List.mem_of_getElem? (i := 98) (by decide +kernel)))
  obtain ⟨comp, cO, kO, hcomp, -, hkO, hkindO, hnO⟩ := arrayOverA_spec (hts (.arrayOver (.array .int)) (List.mem_of_getElem? (i := 163) (by decide +kernel)))
  have ec : comp = cI := Option.some.inj (hcomp.symm.trans hcI)
  subst ec
  refine ⟨((dC, dI), comp, cO), ⟨hKc, fun k q hq => ?_⟩, ⟨(va_Nw.of rfl (hts (.fieldLinkNest RX4 34 RX5 "letters" "[I" RX6) (List.mem_of_getElem? (i := 119) (by decide +kernel)))), (va_Nw.of rfl (hts (.fieldLinkNest RX4 37 RX5 "places" "[I" RX6) (List.mem_of_getElem? (i := 122) (by decide +kernel)))), (va_Nw.of rfl (hts (.fieldLinkNest RX4 24 RX5 "length" "I" RX6) (List.mem_of_getElem? (i := 127) (by decide +kernel)))), (va_Nw.of rfl (hts (.methodLinkNest RX3 36 yX6_isLetter RX6) (List.mem_of_getElem? (i := 303) (by decide +kernel))))⟩, ⟨⟨kO, hkO, hkindO⟩, (va_Nw.of rfl (hts (.methodLinkNest RX6 9 yX2_init RX6) (List.mem_of_getElem? (i := 78) (by decide +kernel)))), (va_Nw.of rfl (hts (.methodLinkNest RX6 18 yX3_init RX6) (List.mem_of_getElem? (i := 101) (by decide +kernel)))), (va_Nw.of rfl (hts (.methodLinkNest RX6 25 yX5_init RX6) (List.mem_of_getElem? (i := 114) (by decide +kernel)))), (va_Nw.of rfl (hts (.methodLinkNest RX6 32 yX1_init RX6) (List.mem_of_getElem? (i := 148) (by decide +kernel)))), (va_Nw.of rfl (hts (.methodLinkNest RX6 39 yX0_init RX6) (List.mem_of_getElem? (i := 206) (by decide +kernel)))), (va_Nw.of rfl (hts (.methodLinkNest RX6 55 yX4_init RX6) (List.mem_of_getElem? (i := 224) (by decide +kernel)))), (va_Nw.of rfl (hts (.methodLinkNest RX1 11 yX4_init RX6) (List.mem_of_getElem? (i := 154) (by decide +kernel))))⟩⟩
  match k, hq with
  | 0, hq => cases hq; exact ⟨fun n z => ⟨fun k h => (by cases h), kI, hkI, cc, hkindI⟩, hcI⟩
  | 1, hq => cases hq; exact ⟨fun n z => ⟨fun k h => (by cases h), kO, hkO, comp, hkindO⟩, hnO⟩
  | k + 2, hq => simp at hq
set_option maxHeartbeats 4000000 in
set_option maxRecDepth 100000 in
theorem whole_start {p : Program} {e : Env} {s : State} {m : MethodId} {below : List Frame} {meth : Method} {c : Code} (l : Launch) (hflags : l.flags = flags0) {b L : Nat} {xs : Nat → Int32} (hL : L ≤ 1536) (C0 : lw_At p s m meth c b L xs) : W p l e room_1 s m #[Value.ref b] below meth c s.heap [] 0 0 (lw_Z below #[Value.ref b] s) (entryFrame m ([Value.ref b] : List Value).toArray 4) := by
  obtain ⟨hx, hb, hr, hml, hown, hts, hX, hbl, hlocks, hgv⟩ := id C0
  obtain ⟨g, hK, hN, hE⟩ := lw_glob hts
  have C : xCx p s m #[Value.ref b] c code 4 wsL_law RL g (fun q : Nat => s.heap.size ≤ q) := ⟨hx, hb, hml, hown, fun w h => hts w (wsL_law_in w h), hK, hN, fun _ h => h⟩
  have Z : xSt g (fun q : Nat => s.heap.size ≤ q) s ([] : va_W) s.heap [] := ⟨fun k q h => by simp at h, ⟨fun i j p q h => by simp at h, fun k q h => by simp at h⟩, va_S.rf⟩
  have hl := lv_entry ([.ref b]) (n := 4) (Nat.le_of_ble_eq_true rfl)
  rw [lg_entry_eq]
  generalize (lg_sl ([.ref b]) ++ List.replicate (4 - (lg_sl ([.ref b])).length) Slot.unset).toArray = ls at hl ⊢
  have hl : lv_has ls 4 [(0, .ref b)] := hl
  refine x_new C Z (ci := 6) (fs := [.null, .null, .null, .null, .null, .null, .null, .null, .null, .null, .int 0]) rfl inlX6 tyX6_ok (List.mem_of_getElem? (i := 0) rfl) (List.mem_of_getElem? (i := 1) rfl) (List.mem_of_getElem? (i := 2) rfl) (by decide) (Nat.le_of_ble_eq_true rfl) (Nat.le_of_ble_eq_true rfl) dL_law_0 (fun q0 H Z => ?_)
  refine W.widen (k := 1) (n := 11) (Nat.le_of_ble_eq_true rfl) (Nat.le_of_ble_eq_true rfl) ?_
  refine lv_dup hx hb dL_law_3 rfl ?_
  refine x_callI (X := []) C hE Z (k_X6_init l g q0) gL_law_X6_init (List.mem_of_getElem? (i := 6) rfl) (List.mem_of_getElem? (i := 2) rfl) (List.mem_of_getElem? (i := 7) rfl) yc_X6 ⟨Nat.le_of_ble_eq_true rfl, Nat.le_of_ble_eq_true rfl⟩ ⟨Nat.le_of_ble_eq_true rfl, Nat.le_of_ble_eq_true rfl⟩ hl.1 (Nat.le_of_ble_eq_true rfl) dL_law_4 (fun w H locs hp Zn => ?_)
  obtain ⟨aF, aH, aP, aT, aC, aK, aB, aQ, aU, aV, aS, aR, rr, e0, rfl⟩ := hp
  subst e0
  have Z : xSt g (fun q : Nat => s.heap.size ≤ q) s (w6 g aF aH aP aT aC aK aB aQ aU aV aS aR rr 0 H00 P00 T00 C00 K00 B00 T00 T00 T00 K00 K00) H locs := Zn
  clear Zn
  refine W.widen (k := 111) (n := 7635) (Nat.le_of_ble_eq_true rfl) (Nat.le_of_ble_eq_true rfl) ?_
  refine lv_astore_n (lv' := [(1, .ref (aF 0)), (0, .ref b)]) hx hb dL_law_7 rfl hl (by decide) rfl (fun ls hl => ?_)
  refine x_new C Z (ci := 7) (fs := [.null, .null, .null, .null, .int 0, .int 0, .null, .int 0, .null, .null, .null, .null, .null, .null, .null, .null, .null, .null, .null, .null, .null, .int 0, .null]) rfl inlX7 tyX7_ok (List.mem_of_getElem? (i := 3) rfl) (List.mem_of_getElem? (i := 4) rfl) (List.mem_of_getElem? (i := 5) rfl) (by decide) (Nat.le_of_ble_eq_true rfl) (Nat.le_of_ble_eq_true rfl) dL_law_8 (fun q1 H Z => ?_)
  refine W.widen (k := 112) (n := 7658) (Nat.le_of_ble_eq_true rfl) (Nat.le_of_ble_eq_true rfl) ?_
  refine lv_dup hx hb dL_law_11 rfl ?_
  refine x_callI C hE Z (k_X7_init l g q1) gL_law_X7_init (List.mem_of_getElem? (i := 95) rfl) (List.mem_of_getElem? (i := 5) rfl) (List.mem_of_getElem? (i := 96) rfl) yc_X7 ⟨Nat.le_of_ble_eq_true rfl, Nat.le_of_ble_eq_true rfl⟩ ⟨Nat.le_of_ble_eq_true rfl, Nat.le_of_ble_eq_true rfl⟩ hl.1 (Nat.le_of_ble_eq_true rfl) dL_law_12 (fun w H locs hp Zm => ?_)
  obtain ⟨aM, e1, rfl⟩ := hp
  subst e1
  refine W.widen (k := 131) (n := 10637) (Nat.le_of_ble_eq_true rfl) (Nat.le_of_ble_eq_true rfl) ?_
  refine lv_astore_n (lv' := [(2, .ref (aM 0)), (1, .ref (aF 0)), (0, .ref b)]) hx hb dL_law_15 rfl hl (by decide) rfl (fun ls hl => ?_)
  refine x_iconst C dL_law_16 ?_
  refine lv_istore_n (lv' := [(3, .int (iI 0)), (2, .ref (aM 0)), (1, .ref (aF 0)), (0, .ref b)]) hx hb dL_law_17 rfl hl (by decide) rfl (fun ls hl => ?_)
  have Z : xSt g (fun q : Nat => s.heap.size ≤ q) s (w6 g aF aH aP aT aC aK aB aQ aU aV aS aR rr 0 H00 P00 T00 C00 K00 B00 T00 T00 T00 K00 K00 ++ wM g aM V00 Q00 M00 S00 D00 z0) H locs := Zm
  refine law_loop (ad := fun k => [aF, aH, aP, aT, aC, aK, aB, aQ, aU, aV, aS, aR, rr, aM].getD k aF) ⟨C, hX, hbl, Nat.not_le.mpr hbl, hL⟩ (fun H locs ls ws Z => ?_) (L + 4) 0 (by omega) (by omega) (by omega) H locs ls ⟨0, H00, P00, T00, C00, K00, B00, T00, T00, T00, K00, K00, V00, Q00, M00, S00, D00, z0, R00, Z⟩ hl
  refine lv_iconst (v := 1) hx hb dL_law_840 (by decide) ?_
  refine va_forget (fun q hq => Z.2.2.2.2 q hq) ?_
  refine W.widen (k := 600000) (n := 7302250) (Nat.le_of_ble_eq_true rfl) (Nat.le_of_ble_eq_true rfl) ?_
  exact lw_ret hx hb hr hlocks dL_law_841
