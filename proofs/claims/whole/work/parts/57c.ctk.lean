/-! a world in another order -/
theorem x_pw : ∀ ws : va_W, (∀ (i j : Nat) (p q : Nat × va_E), ws[i]? = some p → ws[j]? = some q → p.1 = q.1 → i = j) → ws.Pairwise (fun p q => p.1 ≠ q.1)
  | [], _ => .nil
  | a :: l, h => .cons (fun b hb e => by
      obtain ⟨j, hj⟩ := List.getElem?_of_mem hb
      have := h 0 (j + 1) a b rfl hj e
      omega) (x_pw l (fun i j p q hi hj e => by
      have := h (i + 1) (j + 1) p q hi hj e
      omega))
theorem x_wp : ∀ ws : va_W, ws.Pairwise (fun p q => p.1 ≠ q.1) → ∀ (i j : Nat) (p q : Nat × va_E), ws[i]? = some p → ws[j]? = some q → p.1 = q.1 → i = j
  | [], _, i, _, p, _, hi, _, _ => by simp at hi
  | a :: l, h, 0, 0, p, q, hi, hj, e => rfl
  | a :: l, h, 0, j + 1, p, q, hi, hj, e => by
    rw [List.getElem?_cons_zero] at hi
    rw [List.getElem?_cons_succ] at hj
    cases hi
    exact absurd e ((List.pairwise_cons.mp h).1 q (List.mem_of_getElem? hj))
  | a :: l, h, i + 1, 0, p, q, hi, hj, e => by
    rw [List.getElem?_cons_zero] at hj
    rw [List.getElem?_cons_succ] at hi
    cases hj
    exact absurd e.symm ((List.pairwise_cons.mp h).1 p (List.mem_of_getElem? hi))
  | a :: l, h, i + 1, j + 1, p, q, hi, hj, e => by
    rw [List.getElem?_cons_succ] at hi hj
    rw [x_wp l (List.pairwise_cons.mp h).2 i j p q hi hj e]
theorem xSt.perm {g : xG} {A : Nat → Prop} {s : State} {ws ws' : va_W} {H : Heap} {locs : List Loc} (Z : xSt g A s ws H locs) (h : ws.Perm ws') : xSt g A s ws' H locs := by
  refine ⟨fun k q hk => ?_, ⟨x_wp _ (h.pairwise (x_pw _ Z.2.1.1) (fun e => Ne.symm e)), fun k q hk => ?_⟩, Z.2.2⟩
  · obtain ⟨i, hi⟩ := List.getElem?_of_mem (h.mem_iff.mpr (List.mem_of_getElem? hk))
    exact Z.1 i q hi
  · obtain ⟨i, hi⟩ := List.getElem?_of_mem (h.mem_iff.mpr (List.mem_of_getElem? hk))
    exact Z.2.1.2 i q hi
/-! the constructors' own words of the nest, and what the class of int[][] is made of -/
def xE (g : xG) (U : State) : Prop := (∃ k, U.vm.classes[g.2.2]? = some k ∧ k.kind = .array g.2.1 (.array .int)) ∧ va_Nw (.methodLinkNest RX6 9 yX2_init RX6) U ∧ va_Nw (.methodLinkNest RX6 18 yX3_init RX6) U ∧ va_Nw (.methodLinkNest RX6 25 yX5_init RX6) U ∧ va_Nw (.methodLinkNest RX6 32 yX1_init RX6) U ∧ va_Nw (.methodLinkNest RX6 39 yX0_init RX6) U ∧ va_Nw (.methodLinkNest RX6 55 yX4_init RX6) U ∧ va_Nw (.methodLinkNest RX1 11 yX4_init RX6) U
theorem xE.same {g : xG} {u U : State} (h : u.vm = U.vm) (hZ : xE g u) : xE g U := ⟨by rw [← h]; exact hZ.1, va_Nw.same rfl h hZ.2.1, va_Nw.same rfl h hZ.2.2.1, va_Nw.same rfl h hZ.2.2.2.1, va_Nw.same rfl h hZ.2.2.2.2.1, va_Nw.same rfl h hZ.2.2.2.2.2.1, va_Nw.same rfl h hZ.2.2.2.2.2.2.1, va_Nw.same rfl h hZ.2.2.2.2.2.2.2⟩
theorem xE.warm {g : xG} {s U : State} (hW : s.WarmedH U.vm) (hZ : xE g s) : xE g U := ⟨by
  obtain ⟨k, h1, h2⟩ := hZ.1
  obtain ⟨k', h3, h4⟩ := hW.alike.2.2 _ _ h1
  exact ⟨k', h3, by rw [h4]; exact h2⟩, va_Nw.warmM hW hZ.2.1, va_Nw.warmM hW hZ.2.2.1, va_Nw.warmM hW hZ.2.2.2.1, va_Nw.warmM hW hZ.2.2.2.2.1, va_Nw.warmM hW hZ.2.2.2.2.2.1, va_Nw.warmM hW hZ.2.2.2.2.2.2.1, va_Nw.warmM hW hZ.2.2.2.2.2.2.2⟩
/-! a constructor's contract: from the fresh object h the world is one of Post -/
def xPreC (g : xG) (av : List Value) (w : va_W) (sz : Nat) : Array Value → State → Prop := va_Pc av (fun U => U.heap.size = sz ∧ va_P g.1 vwCl w U.heap ∧ xK g U ∧ xN U ∧ xE g U ∧ va_D (fun _ => True) w)
def xMc (l : Launch) (y : MethodName) (ws : List Cond) (rm : Room) (g : xG) (h : Nat) (w : va_W) (mc ms : Nat) (Post : va_W → Prop) : Prop := ∀ sz : Nat, Met l y ws rm (xPreC g [.ref h] w sz) (va_Qv Post (fun w' t => va_P g.1 vwCl w' t.heap ∧ va_D (va_A w sz) w') (va_A w sz)) mc ms (va_A w sz)
theorem xPreC_blind (g : xG) (av : List Value) (w : va_W) (sz : Nat) : FrameBlind (xPreC g av w sz) := by
  intro a U f mk q
  obtain ⟨q0, q1, qP, qK, qN, qE, qD⟩ := q
  exact ⟨q0, q1, qP, va_K.moved (u := U) (U := U.calling f mk a) (Vm.Alike.refl U.vm) qK, xN.same rfl qN, xE.same rfl qE, qD⟩
def xYc (y : MethodName) (bytes : ByteArray) (maxL : Nat) (wsy : List Cond) (rm : Room) (mc ms : Nat) : Prop := (∃ wsy', wsy = Cond.code y bytes maxL none :: wsy') ∧ (y.cls ≠ "java/lang/invoke/MethodHandle" ∧ y.cls ≠ "java/lang/invoke/VarHandle" ∧ (parseMethodDescriptor y.desc).map (fun d => d.parameters.length) = some 0) ∧ rm.cells = mc ∧ rm.slots = ms ∧ y.name = "<init>"
theorem x_ofW_c {l : Launch} {y : MethodName} {wsy wsy2 : List Cond} {rm : Room} {g : xG} {h : Nat} {w : va_W} {mc ms : Nat} {Post : va_W → Prop} {cc : ByteArray} {maxL : Nat} {own : String} (hy : plainName y.cls = true) (hw : wsy = Cond.code y cc maxL none :: wsy2) (ho : y.cls = own) (hyn : y.name = "<init>") (hav : (lg_sl [Value.ref h]).length ≤ maxL)
    (body : ∀ (p : Program) (e : Env) (s : State) (m : MethodId) (args : Array Value) (below : List Frame) (meth : Method) (c : Code) (ls : Array Slot) (A : Nat → Prop) (QQ : State → Prop), xCx p s m args c cc maxL wsy own g A → xE g s → meth.name = "<init>" → (∀ (H : Heap) (locs : List Loc) (ls : Array Slot) (pc : Nat) (w2 : va_W), Post w2 → xSt g A s w2 H locs → decode cc pc = .ok (.return_, 1) → W p l e rm s m args below meth c H locs mc ms QQ (F0 m pc ls [])) → xSt g A s w s.heap [] → lv_has ls maxL (lv_args 0 [Value.ref h]) → W p l e rm s m args below meth c s.heap [] 0 0 QQ (F0 m 0 ls [])) : xMc l y wsy rm g h w mc ms Post := by
  intro sz
  refine Met.ofW (cc := cc) (maxL := maxL) (ret := none) hy hw ?_
  intro p e s m args below meth c s₁ B hml hv
  obtain ⟨rfl, rfl, hP, hK, hN, hE, hD0⟩ := hv
  have hown : s.vm.findClass own = some m.cls := ho ▸ findClass_of_methodNamed B.named
  have hl := lv_entry [Value.ref h] (n := maxL) hav
  rw [lg_entry_eq]
  exact body p e s m _ below meth c _ (va_A w s.heap.size) _ ⟨B.exec, B.bytes, hml, hown, atoms_spec (ws := wsy) B.pre, hK, hN, fun q h => Or.inr h⟩ hE ((name_of_methodNamed B.named B.method).1.trans hyn) (fun H locs ls pc w2 hp Z hdg => W.vret B.exec B.bytes B.returns (fun t ht hW => ⟨⟨w2, rfl, hp, by rw [ht]; exact Z.1, Z.2.1⟩, Z.2.2.F ht⟩) Z.2.2.2.2 hdg B.notSynchronized) ⟨hP, hD0.self, va_S.rf⟩ hl
section XCT
variable {p : Program} {l : Launch} {e : Env} {R : Room} {s : State} {m : MethodId} {args : Array Value} {below : List Frame} {meth : Method} {c : Code} {H : Heap} {locs : List Loc} {cells slots : Nat} {Q : State → Prop}
variable {cc : ByteArray} {pc : Nat} {ls : Array Slot} {rest : List Value} {nL : Nat} {Ts : List Cond} {own : String} {g : xG} {A : Nat → Prop} {ws ws2 X : va_W} {a : Nat}
theorem x_objinit (C : xCx p s m args c cc nL Ts own g A) (hls : ls.size = nL) {idx : Nat} (h1 : Cond.methodLink own idx objectInit ∈ Ts) (h2 : Cond.instanceMethod objectInit ∈ Ts) (h3 : Cond.code objectInit ⟨#[0xb1]⟩ 1 none ∈ Ts) (hfr : 1 ≤ R.frames) (hlo : 20 ≤ R.locals) (hcat : (rest.map fun v => v.category).sum ≤ 8) (hdg : decode cc pc = .ok (.invokespecial idx, 3)) (kk : W p l e R s m args below meth c H locs cells slots Q (F0 m (pc + 3) ls rest)) : W p l e R s m args below meth c H locs cells slots Q (F0 m pc ls (.ref a :: rest)) := by
  have ts := C.2.2.2.2.1
  refine W.objInit C.1 C.2.1 C.2.2.2.1 (ts _ h1) (ts _ h2) (ts _ h3) rfl (hls.trans C.2.2.1.symm) rfl hdg hfr ?_ kk
  have := lv_room (m := m) (pc := pc) (ls := ls) (rest := .ref a :: rest) hcat
  omega
theorem x_newa (C : xCx p s m args c cc nL Ts own g A) (Z : xSt g A s ws H locs) {n : Int} {N : Nat} (harr : Cond.arrayClass .int ∈ Ts) (hn : 0 ≤ n ∧ n < 100000) (hN : n.toNat = N) (hcl : cells + 1 ≤ R.cells) (hsl : slots + N ≤ R.slots) (hdg : decode cc pc = .ok (.newarray .int, 2)) (kk : ∀ (q : Nat) (H1 : Heap), xSt g A s (ws ++ [(q, .inl (g.2.1, N, .inl (lf z0)))]) H1 locs → W p l e R s m args below meth c H1 locs (cells + 1) (slots + N) Q (F0 m (pc + 2) ls (.ref q :: rest))) : W p l e R s m args below meth c H locs cells slots Q (F0 m pc ls (.int (iI n) :: rest)) := by
  refine va_newa (atype := .int) (ty := .int) (N' := N) (a0 := (N, .inl (lf z0))) C.1 C.2.1 (C.2.2.2.2.1 _ harr) rfl C.2.2.2.2.2.1 Z.1 Z.2.1 Z.2.2 C.2.2.2.2.2.2.2 (fun cA => rfl) ?_ ?_ ?_ hcl hsl hdg (fun q cA H1 hK hP hD hS => ?_)
  · rw [show (0 : Int32) = iI 0 from rfl, iI_lt ⟨by omega, by omega⟩ (by decide)]; omega
  · rw [iI_clamp hn.1 (by omega)]; exact hN
  · show N * 4 ≤ 536870912
    omega
  · have e0 : cA = g.2.1 := Option.some.inj ((hK.2 2 _ rfl).2.symm.trans (C.2.2.2.2.2.1.2 0 _ rfl).2)
    subst e0
    exact kk q H1 ⟨hP, hD, hS⟩
theorem x_putF (C : xCx p s m args c cc nL Ts own g A) (Z : xSt g A s ws H locs) (hin2 : meth.name = "<init>") (q0 : Nat) {ci k index N : Nat} {fs : List Value} {CC : String} {T : u_T} {ty0 : Nat → FieldType} {v : Value} (he : ws[q0]? = some (a, .inr (ci, fs))) (hc : vwCl[ci]? = some (CC, T, N)) (hin : ∀ w ∈ u_ws CC T N, w ∈ Ts) (hty : ∀ k, k < N → parseFieldDescriptor (T k).2.2.1 = some (ty0 k)) (hnm : ∀ a, a < N → ∀ b, b < N → a ≠ b → (T a).2.1 ≠ (T b).2.1) (hk : k < N) (hl : Cond.fieldLink own index (T k).1 (T k).2.1 (T k).2.2.1 ∈ Ts) (hfin : (T k).2.2.2 = true) (hdecl : (T k).1 = own) (hn : narrow (ty0 k) v = v) (hfit : fits (ty0 k) v = true) (hlen : k < fs.length) (hdg : decode cc pc = .ok (.putfield index, 3)) (hw : ws.set q0 (a, .inr (ci, fs.set k v)) = ws2) (kk : ∀ (H1 : Heap) (locs1 : List Loc), xSt g A s ws2 H1 locs1 → W p l e R s m args below meth c H1 locs1 cells slots Q (F0 m (pc + 3) ls rest)) : W p l e R s m args below meth c H locs cells slots Q (F0 m pc ls (v :: .ref a :: rest)) := by
  subst hw
  exact va_putF C.1 C.2.1 C.2.2.2.2.1 hin ty0 hty hnm C.2.2.2.1 C.2.2.2.2.2.1 Z.1 Z.2.1 Z.2.2 q0 he hc k hk (C.2.2.2.2.1 _ hl) (fun _ h => h) hfin hin2 hdecl (hty k hk) hn hfit hlen hdg (fun H1 locs1 h1 h2 h3 => kk H1 locs1 ⟨h1, h2, h3⟩)
theorem x_new (C : xCx p s m args c cc nL Ts own g A) (Z : xSt g A s ws H locs) {ci index N : Nat} {CC : String} {T : u_T} {ty0 : Nat → FieldType} {fs : List Value} (hc : vwCl[ci]? = some (CC, T, N)) (hin : ∀ w ∈ u_ws CC T N, w ∈ Ts) (hty : ∀ k, k < N → parseFieldDescriptor (T k).2.2.1 = some (ty0 k)) (h1 : Cond.classLink own index CC ∈ Ts) (h2 : Cond.instantiable CC N ∈ Ts) (h3 : Cond.initialized CC ∈ Ts) (hfs : ∀ j, j < N → defaultValue (ty0 j) = vp_V fs j) (hcl : cells + 1 ≤ R.cells) (hsl : slots + N ≤ R.slots) (hdg : decode cc pc = .ok (.new index, 3)) (kk : ∀ (q : Nat) (H1 : Heap), xSt g A s (ws ++ [(q, .inr (ci, fs))]) H1 locs → W p l e R s m args below meth c H1 locs (cells + 1) (slots + N) Q (F0 m (pc + 3) ls (.ref q :: rest))) : W p l e R s m args below meth c H locs cells slots Q (F0 m pc ls rest) := by
  have ts := C.2.2.2.2.1
  exact va_new C.1 C.2.1 ts hin ty0 hty C.2.2.2.1 (ts _ h1) (ts _ h2) (ts _ h3) C.2.2.2.2.2.1 Z.1 Z.2.1 Z.2.2 C.2.2.2.2.2.2.2 hc hfs hcl hsl hdg (fun q H1 a1 a2 a3 => kk q H1 ⟨a1, a2, a3⟩)
theorem x_afterI (C : xCx p s m args c cc nL Ts own g A) {b : Nat} {e0 : va_E} {Post : va_W → Prop} {a0 : Array Value} {st : List Value} {mc ms : Nat} (Z : xSt g A s (X ++ [(b, e0)]) H locs) (hr : va_Run p l e R s m args below meth c H locs cells slots mc ms (F0 m pc ls st) rest (va_Qv Post (fun w' t => va_P g.1 vwCl w' t.heap ∧ va_D (va_A [(b, e0)] H.size) w') (va_A [(b, e0)] H.size) a0) (va_A [(b, e0)] H.size)) (kk : ∀ (w' : va_W) (H1 : Heap) (locs1 : List Loc), Post w' → xSt g A s (X ++ w') H1 locs1 → W p l e R s m args below meth c H1 locs1 (cells + mc) (slots + ms) Q (F0 m (pc + 3) ls rest)) : W p l e R s m args below meth c H locs cells slots Q (F0 m pc ls st) := by
  have Z1 : xSt g A s ([(b, e0)] ++ X) H locs := Z.perm List.perm_append_comm
  have hF : ∀ q, va_A [(b, e0)] H.size q → A q := va_free (wc := [(b, e0)]) Z1.2.1 Z1.2.2 C.2.2.2.2.2.2.2 [0] rfl
  refine va_callv hr Z.2.2 (fun q _ h => hF q h) hF (fun w' t H1 locs1 ht hvm hp hB hz hk hS => ?_)
  obtain ⟨hP1, hD1⟩ := hB
  rw [ht] at hP1
  obtain ⟨hP, hD⟩ := va_joinQ (X := [(b, e0)]) (cx := [(b, e0)]) (wr := []) (pl := X) Z1.1 Z1.2.1 [0] [] rfl rfl rfl (fun i h => absurd h List.not_mem_nil) hk hF hP1 hD1
  exact kk w' H1 locs1 hp (xSt.perm (ws := w' ++ X) ⟨hP, hD, hS⟩ List.perm_append_comm)
theorem x_callIN (C : xCx p s m args c cc nL Ts own g A) (hE : xE g s) {b : Nat} {e0 : va_E} {Post : va_W → Prop} {mc ms maxL index : Nat} {y : MethodName} {bytes : ByteArray} {wsy : List Cond} {rm : Room} {host : String} (Z : xSt g A s (X ++ [(b, e0)]) H locs) (hM : xMc l y wsy rm g b [(b, e0)] mc ms Post) (hG : GoodIn Ts wsy) (hl : va_Nw (.methodLinkNest own index y host) s) (hini : Cond.initialized y.cls ∈ Ts) (him : Cond.instanceMethod y ∈ Ts) (hY : xYc y bytes maxL wsy rm mc ms) (hR : rm.frames + 1 ≤ R.frames ∧ 8 + (maxL + 11) + rm.locals ≤ R.locals) (hcs : cells + mc ≤ R.cells ∧ slots + ms ≤ R.slots) (hls : ls.size = nL) (hcat : (rest.map fun v => v.category).sum ≤ 8) (hdg : decode cc pc = .ok (.invokespecial index, 3)) (kk : ∀ (w' : va_W) (H1 : Heap) (locs1 : List Loc), Post w' → xSt g A s (X ++ w') H1 locs1 → W p l e R s m args below meth c H1 locs1 (cells + mc) (slots + ms) Q (F0 m (pc + 3) ls rest)) : W p l e R s m args below meth c H locs cells slots Q (F0 m pc ls (.ref b :: rest)) := by
  obtain ⟨⟨wsy2, hw⟩, hd, hrc, hrs, hyn⟩ := hY
  have hts := C.2.2.2.2.1
  have Z1 : xSt g A s ([(b, e0)] ++ X) H locs := Z.perm List.perm_append_comm
  have hPc : va_P g.1 vwCl [(b, e0)] H := Z1.1.sub [0] rfl
  have hDc : va_D (fun _ => True) [(b, e0)] := (Z1.2.1.sub (ws' := [(b, e0)]) [0] rfl rfl).weaken (fun _ _ _ _ => trivial)
  exact x_afterI C Z (va_runIN (As := []) (rest := rest) ⟨C.1, C.2.1, C.2.2.1, C.2.2.2.1, hts⟩ (hM H.size) ⟨va_cnB 0 hts hG hw hrc hrs hl (hts _ hini) hd hR, hyn, hts _ him⟩ ⟨xPreC_blind g _ _ H.size, fun U hU hW => ⟨rfl, by rw [hU], by rw [hU]; exact hPc, va_K.moved hW.alike C.2.2.2.2.2.1, xN.warm hW C.2.2.2.2.2.2.1, xE.warm hW hE, hDc⟩⟩ rfl rfl hls rfl (lv_room hcat) hdg hcs) kk
theorem x_callI (C : xCx p s m args c cc nL Ts own g A) (hE : xE g s) {b : Nat} {e0 : va_E} {Post : va_W → Prop} {mc ms maxL index : Nat} {y : MethodName} {bytes : ByteArray} {wsy : List Cond} {rm : Room} (Z : xSt g A s (X ++ [(b, e0)]) H locs) (hM : xMc l y wsy rm g b [(b, e0)] mc ms Post) (hG : GoodIn Ts wsy) (hl : Cond.methodLink own index y ∈ Ts) (hini : Cond.initialized y.cls ∈ Ts) (him : Cond.instanceMethod y ∈ Ts) (hY : xYc y bytes maxL wsy rm mc ms) (hR : rm.frames + 1 ≤ R.frames ∧ 8 + (maxL + 11) + rm.locals ≤ R.locals) (hcs : cells + mc ≤ R.cells ∧ slots + ms ≤ R.slots) (hls : ls.size = nL) (hcat : (rest.map fun v => v.category).sum ≤ 8) (hdg : decode cc pc = .ok (.invokespecial index, 3)) (kk : ∀ (w' : va_W) (H1 : Heap) (locs1 : List Loc), Post w' → xSt g A s (X ++ w') H1 locs1 → W p l e R s m args below meth c H1 locs1 (cells + mc) (slots + ms) Q (F0 m (pc + 3) ls rest)) : W p l e R s m args below meth c H locs cells slots Q (F0 m pc ls (.ref b :: rest)) := by
  obtain ⟨⟨wsy2, hw⟩, hd, hrc, hrs, hyn⟩ := hY
  have hts := C.2.2.2.2.1
  have Z1 : xSt g A s ([(b, e0)] ++ X) H locs := Z.perm List.perm_append_comm
  have hPc : va_P g.1 vwCl [(b, e0)] H := Z1.1.sub [0] rfl
  have hDc : va_D (fun _ => True) [(b, e0)] := (Z1.2.1.sub (ws' := [(b, e0)]) [0] rfl rfl).weaken (fun _ _ _ _ => trivial)
  exact x_afterI C Z (va_runI (As := []) (rest := rest) ⟨C.1, C.2.1, C.2.2.1, C.2.2.2.1, hts⟩ (hM H.size) (cwI 0 hts hG hw hrc hrs (hts _ hini) (hts _ hl) (hts _ him) hyn hd hR) ⟨xPreC_blind g _ _ H.size, fun U hU hW => ⟨rfl, by rw [hU], by rw [hU]; exact hPc, va_K.moved hW.alike C.2.2.2.2.2.1, xN.warm hW C.2.2.2.2.2.2.1, xE.warm hW hE, hDc⟩⟩ rfl rfl hls rfl (lv_room hcat) hdg hcs) kk
end XCT
