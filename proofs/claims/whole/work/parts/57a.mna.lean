/-! new int[N][M] in one instruction: the rows come one after another -/
def mR (cI : ClassId) (M : Nat) : Cell := { cls := cI, slots := Array.replicate M (.int 0), vm := .none }
def mO (cO : ClassId) (N h i : Nat) : Cell := arrV cO N (fun j => va_rf (if j < i then some (h + 1 + j) else none))
def mS (T : State) (cO cI : ClassId) (N M : Nat) : Nat → State
  | 0 => T.pushCell { cls := cO, slots := Array.replicate N .null, vm := .none }
  | i + 1 => ((mS T cO cI N M i).pushCell (mR cI M)).setCell T.heap.size ((mO cO N T.heap.size i).setSlot i (.ref (T.heap.size + 1 + i)))
theorem mO_0 (cO : ClassId) (N h : Nat) : ({ cls := cO, slots := Array.replicate N .null, vm := .none } : Cell) = mO cO N h 0 := by
  rw [arrV_new]
  unfold mO
  exact congrArg (arrV cO N) (funext fun j => by rw [if_neg (Nat.not_lt_zero j)]; rfl)
theorem mO_s (cO : ClassId) (N h i : Nat) : (mO cO N h i).setSlot i (.ref (h + 1 + i)) = mO cO N h (i + 1) := by
  unfold mO
  rw [arrV_store]
  refine congrArg (arrV cO N) (funext fun j => ?_)
  unfold updV
  by_cases e : j = i
  · subst e; rw [if_pos rfl, if_pos (Nat.lt_succ_self j)]; rfl
  · rw [if_neg e]
    show va_rf (if j < i then some (h + 1 + j) else none) = _
    by_cases h1 : j < i
    · rw [if_pos h1, if_pos (by omega)]
    · rw [if_neg h1, if_neg (by omega)]
theorem mS_all (T : State) (cO cI : ClassId) (N M : Nat) : ∀ i, (mS T cO cI N M i).heap.size = T.heap.size + 1 + i ∧ (mS T cO cI N M i).heap[T.heap.size]? = some (mO cO N T.heap.size i) ∧ (mS T cO cI N M i).vm = T.vm ∧ (mS T cO cI N M i).slotsUsed = T.slotsUsed + N + i * M ∧
    (∀ x, x < T.heap.size → (mS T cO cI N M i).heap[x]? = T.heap[x]?) ∧ ∀ j, j < i → (mS T cO cI N M i).heap[T.heap.size + 1 + j]? = some (mR cI M)
  | 0 => by
    refine ⟨by simp [mS], by rw [← mO_0]; simp [mS], rfl, by simp [mS], fun x hx => State.heap_pushCell_of_lt _ _ hx, fun j hj => absurd hj (Nat.not_lt_zero j)⟩
  | i + 1 => by
    obtain ⟨h1, h2, h3, h4, h5, h6⟩ := mS_all T cO cI N M i
    have hlt : T.heap.size < (mS T cO cI N M i).heap.size := by omega
    have hb : ((mS T cO cI N M i).pushCell (mR cI M)).heap[T.heap.size]? = some (mO cO N T.heap.size i) := by rw [State.heap_pushCell_of_lt (h := hlt)]; exact h2
    refine ⟨by simp [mS, State.setCell, h1]; omega, ?_, by simp [mS, h3], by simp [mS, h4, mR, Nat.succ_mul]; omega, fun x hx => ?_, fun j hj => ?_⟩
    · rw [← mO_s]; exact State.heap_setCell_self hb
    · show (((mS T cO cI N M i).pushCell (mR cI M)).setCell T.heap.size _).heap[x]? = _
      rw [State.heap_setCell_other (Nat.ne_of_gt hx), State.heap_pushCell_of_lt (h := Nat.lt_trans hx hlt)]
      exact h5 x hx
    · show (((mS T cO cI N M i).pushCell (mR cI M)).setCell T.heap.size _).heap[T.heap.size + 1 + j]? = _
      rw [State.heap_setCell_other (show T.heap.size ≠ T.heap.size + 1 + j by omega)]
      rcases Nat.lt_or_ge j i with q | q
      · rw [State.heap_pushCell_of_lt (h := show T.heap.size + 1 + j < (mS T cO cI N M i).heap.size by omega)]
        exact h6 j q
      · have e : j = i := by omega
        subst e
        rw [← h1]
        exact State.heap_pushCell_size _ _
theorem mS_top (T : State) (f : JFrame) (cO cI : ClassId) (N M : Nat) : ∀ i, mS (T.setTop f) cO cI N M i = (mS T cO cI N M i).setTop f
  | 0 => rfl
  | i + 1 => by simp only [mS, mS_top T f cO cI N M i, State.heap_setTop, State.pushCell_setTop, State.setCell_setTop]
section MNA
variable {p : Program} {l : Launch} {e : Env} {R : Room} {s : State} {m : MethodId} {args : Array Value} {below : List Frame} {meth : Method} {c : Code} {T : State} {locs : List Loc} {cells slots : Nat}
theorem mS_stand (X : Stand p l e R s m args below meth c T locs cells slots) (cO cI : ClassId) (N M : Nat) : ∀ i, ∃ L : List Loc, (∀ q ∈ L, q.base = T.heap.size) ∧ Stand p l e R s m args below meth c (mS T cO cI N M i) (locs ++ L) (cells + 1 + i) (slots + N + i * M)
  | 0 => by
    have h := X.pushed { cls := cO, slots := Array.replicate N .null, vm := .none }
    refine ⟨[], fun q h => absurd h List.not_mem_nil, ?_⟩
    simpa [mS] using h
  | i + 1 => by
    obtain ⟨L, hL, Xi⟩ := mS_stand X cO cI N M i
    obtain ⟨h1, h2, -⟩ := mS_all T cO cI N M i
    have hlt : T.heap.size < (mS T cO cI N M i).heap.size := by omega
    have hb : ((mS T cO cI N M i).pushCell (mR cI M)).heap[T.heap.size]? = some (mO cO N T.heap.size i) := by rw [State.heap_pushCell_of_lt (h := hlt)]; exact h2
    have h := (Xi.pushed (mR cI M)).stored hb i (.ref (T.heap.size + 1 + i))
    have e1 : (mR cI M).slots.size = M := by simp [mR]
    rw [e1, List.append_assoc] at h
    refine ⟨L ++ [⟨T.heap.size, i⟩], fun q hq => ?_, ?_⟩
    · rcases List.mem_append.mp hq with w | w
      · exact hL q w
      · rw [List.mem_singleton.mp w]
    · rw [show slots + N + (i + 1) * M = slots + N + i * M + M by rw [Nat.succ_mul]; omega]
      exact h
end MNA
section MNW
variable {E : CtlPost} {e : Env} {d : Bool} {acts : List Action} {s : State}
theorem m_inner {cI cc : ClassId} {kI : Class} {M : Int32} (hk : s.vm.classes[cI]? = some kI) (hkind : kI.kind = .array cc .int) (hM : ¬ M < 0)
    (h1 : ¬ M.toNatClampNeg > e.platform.arrayLengthLimit) (h2 : ¬ M.toNatClampNeg * componentBytes .int > e.platform.maxHeapBytes) (h3 : s.heap.size < e.platform.maxCells) (h4 : s.slotsUsed + M.toNatClampNeg ≤ e.platform.maxSlots)
    {Q : Addr → Jvm.Pre} (hq : ∀ acts', Q s.heap.size d acts' (s.pushCell (mR cI M.toNatClampNeg))) : wp (multianewarray.make cI [M]) Q E e d acts s := by
  rw [multianewarray.make]
  simp only [wp_bind', W.ite, hM, if_false, wp_pure', W.theClass, hk, hkind, Option.some.injEq, exists_eq_left']
  exact W.newArray_of hk hkind h1 h2 h3 h4 rfl (fun a => hq a)
theorem m_outer {cO cI cc : ClassId} {kO kI : Class} {N M : Int32} (hkO : s.vm.classes[cO]? = some kO) (hkindO : kO.kind = .array cI (.array .int)) (hk : s.vm.classes[cI]? = some kI) (hkind : kI.kind = .array cc .int) (hN : ¬ N < 0) (hM : ¬ M < 0)
    (h1 : ¬ N.toNatClampNeg > e.platform.arrayLengthLimit) (h2 : ¬ N.toNatClampNeg * componentBytes (.array .int) > e.platform.maxHeapBytes) (h3 : ¬ M.toNatClampNeg > e.platform.arrayLengthLimit) (h4 : ¬ M.toNatClampNeg * componentBytes .int > e.platform.maxHeapBytes)
    (hc : s.heap.size + 1 + N.toNatClampNeg ≤ e.platform.maxCells) (hs : s.slotsUsed + N.toNatClampNeg + N.toNatClampNeg * M.toNatClampNeg ≤ e.platform.maxSlots)
    {Q : Addr → Jvm.Pre} (hq : ∀ d' acts', Q s.heap.size d' acts' (mS s cO cI N.toNatClampNeg M.toNatClampNeg N.toNatClampNeg)) : wp (multianewarray.make cO [N, M]) Q E e d acts s := by
  have hf : ([M].find? (· < 0)) = none := by simp [hM]
  rw [multianewarray.make]
  simp only [wp_bind', W.ite, hN, if_false, wp_pure', W.theClass, hkO, hkindO, Option.some.injEq, exists_eq_left']
  refine W.newArray_of hkO hkindO h1 h2 (by omega) (by have := Nat.zero_le (N.toNatClampNeg * M.toNatClampNeg); omega) rfl (fun a0 => ?_)
  simp only [hf]
  rw [ite_self, wp_bind', Std.Legacy.Range.forIn_eq_forIn_range']
  rw [show ([:N.toNatClampNeg] : Std.Legacy.Range).size = N.toNatClampNeg by simp [Std.Legacy.Range.size]]
  show wp (forIn (List.range' 0 N.toNatClampNeg 1) PUnit.unit _) _ E e d a0 _
  refine wp_forIn_inv (fun rest t => ∃ i, i + rest.length = N.toNatClampNeg ∧ rest = List.range' i rest.length ∧ t = mS s cO cI N.toNatClampNeg M.toNatClampNeg i) _ _ ⟨0, by simp, by simp, rfl⟩ ?_ ?_
  · rintro x rest t d' acts' Q' ⟨i, hi, hl, rfl⟩ hnext
    rw [List.length_cons] at hi hl
    rw [List.range'_succ] at hl
    obtain ⟨e1, e2⟩ := List.cons.inj hl
    subst e1
    obtain ⟨f1, f2, f3, f4, -⟩ := mS_all s cO cI N.toNatClampNeg M.toNatClampNeg x
    have hmul : x * M.toNatClampNeg + M.toNatClampNeg ≤ N.toNatClampNeg * M.toNatClampNeg := by
      have := Nat.mul_le_mul_right M.toNatClampNeg (show x + 1 ≤ N.toNatClampNeg by omega)
      rw [Nat.succ_mul] at this; exact this
    simp only [wp_bind']
    refine m_inner (by rw [f3]; exact hk) hkind hM h3 h4 (by rw [f1]; omega) (by rw [f4]; omega) (fun a1 => ?_)
    have hlt : s.heap.size < (mS s cO cI N.toNatClampNeg M.toNatClampNeg x).heap.size := by omega
    simp only [wp_bind', W.writeLoc, wp_pure']
    refine ⟨mO cO N.toNatClampNeg s.heap.size x, by rw [State.heap_pushCell_of_lt (h := hlt)]; exact f2, by simp [mO, arrV], by unfold mO; rw [arrV_size]; omega, ?_, hnext _ _ _ ⟨x + 1, by omega, e2, ?_⟩⟩
    · have hko : (mS s cO cI N.toNatClampNeg M.toNatClampNeg x).vm.classes[cO]? = some kO := by rw [f3]; exact hkO
      simp [State.fitsSlot, State.slotType?, mO, arrV, hko, hkindO]
      rfl
    · show _ = ((mS s cO cI N.toNatClampNeg M.toNatClampNeg x).pushCell (mR cI M.toNatClampNeg)).setCell s.heap.size ((mO cO N.toNatClampNeg s.heap.size x).setSlot x (.ref (s.heap.size + 1 + x)))
      rw [f1]
  · rintro t d' acts' ⟨i, hi, -, rfl⟩
    simp only [List.length_nil, Nat.add_zero] at hi
    subst hi
    simp only [wp_pure']
    exact hq _ _
end MNW
