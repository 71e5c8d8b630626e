def z0 : Row := fun _ => 0
theorem mR_z (cI : ClassId) (M : Nat) : mR cI M = vp_cell cI (M, .inl (lf z0)) := by
  unfold mR
  rw [arrV_new]
  rfl
theorem wR_get {g : xG} {rr : Nat → Nat} {M : Int → Row} {k : Nat} {q : Nat × va_E} (h : (wR g rr M)[k]? = some q) : k < 60 ∧ q = (rr k, .inl (g.2.1, 61, .inl (lf (M (k : Int))))) := by
  unfold wR at h
  rw [List.getElem?_map] at h
  by_cases hk : k < 60
  · rw [List.getElem?_range hk] at h
    exact ⟨hk, (Option.some.inj h).symm⟩
  · rw [List.getElem?_eq_none (by rw [List.length_range]; omega)] at h
    cases h
section XMN
variable {p : Program} {l : Launch} {e : Env} {R : Room} {s : State} {m : MethodId} {args : Array Value} {below : List Frame} {meth : Method} {c : Code} {H : Heap} {locs : List Loc} {cells slots : Nat} {Q : State → Prop}
variable {cc : ByteArray} {pc : Nat} {ls : Array Slot} {rest : List Value} {nL : Nat} {Ts : List Cond} {own : String} {g : xG} {A : Nat → Prop} {ws X : va_W} {a : Nat}
abbrev wO (g : xG) (q : Nat) (rr : Nat → Nat) : Nat × va_E := (q, .inl (g.2.2, 60, .inr (.inr (.inr (.inr (fun i => if i < 60 then some (rr i) else none))))))
theorem mS_world (Z : xSt g A s ws H locs) (hA : ∀ q : Nat, s.heap.size ≤ q → A q) {T : State} (hT : T.heap = H) {L : List Loc} (hL : ∀ q ∈ L, q.base = T.heap.size) : xSt g A s ((ws ++ [wO g H.size (fun i => H.size + 1 + i)]) ++ wR g (fun i => H.size + 1 + i) (fun _ => z0)) (mS T g.2.2 g.2.1 60 61 60).heap (locs ++ L) := by
  subst hT
  obtain ⟨hP, hD, hS⟩ := Z
  obtain ⟨f1, f2, -, -, f5, f6⟩ := mS_all T g.2.2 g.2.1 60 61 60
  have hP0 : va_P g.1 vwCl ws (mS T g.2.2 g.2.1 60 61 60).heap := hP.kept (fun k q hk => f5 q.1 ((hP k q hk).lt))
  have hAn : ∀ j : Nat, A (T.heap.size + j) := fun j => hA _ (Nat.le_trans hS.1 (Nat.le_add_right _ _))
  have hD1 : va_D A (ws ++ [wO g T.heap.size (fun i => T.heap.size + 1 + i)]) := hD.push hP rfl (hAn 0)
  refine ⟨va_P.app (hP0.app (fun k q hk => ?_)) (fun k q hk => ?_), va_D.app hD1 ⟨fun i j x y hx hy hxy => ?_, fun k q hk => ?_⟩ (fun i j x y hx hy => ?_), ⟨by have := hS.1; omega, fun q h1 h2 => ?_, fun q hq => ?_⟩⟩
  · have hz : k < 1 := (List.getElem?_eq_some_iff.mp hk).1
    rw [show k = 0 by omega] at hk
    cases hk
    exact f2
  · obtain ⟨h1, rfl⟩ := wR_get hk
    show (mS T g.2.2 g.2.1 60 61 60).heap[T.heap.size + 1 + k]? = some (vp_cell g.2.1 (61, .inl (lf z0)))
    rw [← mR_z]
    exact f6 k h1
  · obtain ⟨h1, rfl⟩ := wR_get hx
    obtain ⟨h2, rfl⟩ := wR_get hy
    dsimp only at hxy
    omega
  · obtain ⟨h1, rfl⟩ := wR_get hk
    exact (Nat.add_assoc T.heap.size 1 k) ▸ hAn (1 + k)
  · obtain ⟨h2, rfl⟩ := wR_get hy
    have hx1 : x.1 ≤ T.heap.size := by
      rcases List.mem_append.mp (List.mem_of_getElem? hx) with w | w
      · obtain ⟨i', hi'⟩ := List.getElem?_of_mem w
        exact Nat.le_of_lt ((hP i' x hi').lt)
      · rw [List.mem_singleton.mp w]; exact Nat.le_refl _
    dsimp only
    omega
  · rw [f5 q (Nat.lt_of_lt_of_le h1 hS.1)]
    exact hS.2.1 q h1 h2
  · rcases List.mem_append.mp hq with w | w
    · exact hS.2.2 q w
    · rw [hL q w]; exact hAn 0
theorem x_mna (C : xCx p s m args c cc nL Ts own g A) (hE : ∃ k, s.vm.classes[g.2.2]? = some k ∧ k.kind = .array g.2.1 (.array .int)) (Z : xSt g A s ws H locs) {index : Nat} (hl : Cond.classLink own index "[[I" ∈ Ts) (hc : cells + 61 ≤ R.cells) (hs : slots + 3720 ≤ R.slots) (hdg : decode cc pc = .ok (.multianewarray index 2, 4))
    (kk : ∀ (q : Nat) (rr : Nat → Nat) (H1 : Heap) (locs1 : List Loc), xSt g A s ((ws ++ [wO g q rr]) ++ wR g rr (fun _ => z0)) H1 locs1 → W p l e R s m args below meth c H1 locs1 (cells + 61) (slots + 3720) Q (F0 m (pc + 4) ls (.ref q :: rest))) : W p l e R s m args below meth c H locs cells slots Q (F0 m pc ls (.int (iI 61) :: .int (iI 60) :: rest)) := by
  intro T hT X
  have hpl : e.platform.magicAccessors = ({} : Platform).magicAccessors := by rw [X.admits.platform]
  obtain ⟨kO, hkO, hkindO⟩ := hE
  obtain ⟨-, kI, hkI, cI2, hkindI⟩ := (C.2.2.2.2.2.1.2 0 _ rfl).1 0 (fun _ => .null)
  have hkI : s.vm.classes[g.2.1]? = some kI := hkI
  have hnm : s.vm.findClass ("[" ++ (FieldType.array .int).toString) = some g.2.2 := (C.2.2.2.2.2.1.2 1 _ rfl).2
  rw [show "[" ++ (FieldType.array FieldType.int).toString = "[[I" from by decide +kernel] at hnm
  obtain ⟨c0, hfc0, hcl⟩ := Cond.classLink_spec C.2.2.2.1 (C.2.2.2.2.1 _ hl) e.platform hpl
  have e0 : c0 = g.2.2 := Option.some.inj (hfc0.symm.trans hnm)
  subst e0
  obtain ⟨hg₁, hwarm₁, hready₁⟩ := State.classEntry (e := e) X.warmed hcl
  generalize T.vm.noted m.cls index (.cls g.2.2) = vm₁ at hg₁ hwarm₁ hready₁
  have hal : s.vm.Alike vm₁ := hwarm₁.alike
  obtain ⟨kO₁, hkO₁, heO⟩ := hal.2.2 _ _ hkO
  obtain ⟨kI₁, hkI₁, heI⟩ := hal.2.2 _ _ hkI
  have hkindO₁ : kO₁.kind = .array g.2.1 (.array .int) := by rw [heO]; exact hkindO
  have hkindI₁ : kI₁.kind = .array cI2 .int := by rw [heI]; exact hkindI
  have X₁ := X.noted hwarm₁
  obtain ⟨hr1, hr2⟩ := X.roomAbove hc hs
  obtain ⟨L, hL, XF⟩ := mS_stand X₁ g.2.2 g.2.1 60 61 60
  have Z1 := mS_world (T := T.setVm vm₁) Z C.2.2.2.2.2.2.2 hT hL
  rw [show cells + 1 + 60 = cells + 61 by omega, show slots + 60 + 60 * 61 = slots + 3720 by omega] at XF
  obtain ⟨t, a1, b1⟩ := kk H.size (fun i => H.size + 1 + i) _ _ Z1 _ rfl XF
  refine ⟨t, ?_, b1⟩
  have hn1 : (iI 60).toNatClampNeg = 60 := by decide
  have hn2 : (iI 61).toNatClampNeg = 61 := by decide
  have h1 : ¬ (iI 60).toNatClampNeg > e.platform.arrayLengthLimit := by rw [Launch.admits_arrayLengthLimit X.admits, hn1]; omega
  have h2 : ¬ (iI 60).toNatClampNeg * componentBytes (.array .int) > e.platform.maxHeapBytes := by rw [Launch.admits_maxHeapBytes X.admits, hn1]; show ¬ 60 * 4 > 536870912; omega
  have h3 : ¬ (iI 61).toNatClampNeg > e.platform.arrayLengthLimit := by rw [Launch.admits_arrayLengthLimit X.admits, hn2]; omega
  have h4 : ¬ (iI 61).toNatClampNeg * componentBytes .int > e.platform.maxHeapBytes := by rw [Launch.admits_maxHeapBytes X.admits, hn2]; show ¬ 61 * 4 > 536870912; omega
  jvm_step X.here [C.1, C.2.1, hdg]
  simp only [multianewarray.sem, wp_bind', W.resolveClassAt_links (State.method?_setTop (F0 m pc ls (.int (iI 61) :: .int (iI 60) :: rest)) X.here.top) hg₁]
  rw [W.popN, if_neg (by decide)]
  refine ⟨F0 m pc ls (.int (iI 61) :: .int (iI 60) :: rest), State.topJava?_setTop' (s := T.setVm vm₁) _ X.here.top, [.int (iI 60), .int (iI 61)], rest, rfl, rfl, ?_⟩
  simp only [List.mapM_cons, List.mapM_nil, wp_bind', wp_pure']
  refine m_outer (kO := kO₁) (kI := kI₁) (cO := g.2.2) (cI := g.2.1) (cc := cI2) hkO₁ hkindO₁ hkI₁ hkindI₁ (by decide) (by decide) h1 h2 h3 h4 (by rw [hn1]; show T.heap.size + 1 + 60 ≤ _; omega) (by rw [hn1, hn2]; show T.slotsUsed + 60 + 60 * 61 ≤ _; omega) (fun d' acts' => ?_)
  have eS : ((T.setTop (F0 m pc ls (.int (iI 61) :: .int (iI 60) :: rest))).setVm vm₁).setTop (F0 m pc ls rest) = (T.setVm vm₁).setTop (F0 m pc ls rest) := by
    show ((T.setVm vm₁).setTop (F0 m pc ls (.int (iI 61) :: .int (iI 60) :: rest))).setTop _ = _
    rw [State.setTop_setTop]
  rw [hn1, hn2, eS, mS_top]
  simp only [wp_bind', W.mark, W.pushRef, State.topJava?_setTop' _ XF.here.top, Option.some.injEq, exists_eq_left', State.setTop_setTop, State.heap_setTop]
  intro acts
  simp [jvm, XF.here.top]
  have hT2 : (T.setVm vm₁).heap.size = H.size := by show T.heap.size = _; rw [hT]
  first
    | exact a1
    | (rw [show T.heap.size = H.size by rw [hT]]; exact a1)
    | (rw [hT2]; exact a1)
end XMN
