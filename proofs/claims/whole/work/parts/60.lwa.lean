/-! the law: what its walk has at hand -/
def sv (xs : Nat → Int32) (x : Int) : Int := (xs x.toNat).toInt
theorem sv_in (xs : Nat → Int32) (x : Int) : InR (sv xs x) := inR_of _
def xLw (p : Program) (s : State) (m : MethodId) (args : Array Value) (c : Code) (g : xG) (A : Nat → Prop) (b L : Nat) (xs : Nat → Int32) : Prop := xCx p s m args c code 4 wsL_law RL g A ∧ va_X b L xs s s.heap ∧ b < s.heap.size ∧ ¬ A b ∧ L ≤ 1536
/-- the world between two calls -/
def xI (g : xG) (A : Nat → Prop) (s : State) (ad : Nat → Nat → Nat) (H : Heap) (locs : List Loc) : Prop := ∃ (sF : Int) (sH : HisS) (sP : PadS) (sT : TxtS) (sC : ClsS) (sK : SwpS) (sB : BegS) (sQ sU sV : TxtS) (sS sR : SwpS) (v : MvS) (w : MpS) (t : MtS) (u : MsS) (d : McS) (z : MrS), Rel sF sH sP sT sC sB sU sV v w ∧ xSt g A s (w6 g (ad 0) (ad 1) (ad 2) (ad 3) (ad 4) (ad 5) (ad 6) (ad 7) (ad 8) (ad 9) (ad 10) (ad 11) (ad 12) sF sH sP sT sC sK sB sQ sU sV sS sR ++ wM g (ad 13) v w t u d z) H locs
theorem x_rng (w : va_W) : (List.range w.length).map (fun i => w[i]?) = w.map some := by
  apply List.ext_getElem?
  intro i
  rw [List.getElem?_map, List.getElem?_map]
  by_cases h : i < w.length
  · rw [List.getElem?_range h, List.getElem?_eq_getElem h]
    show some (w[i]?) = some (some w[i])
    rw [List.getElem?_eq_getElem h]
  · rw [List.getElem?_eq_none (by rw [List.length_range]; omega), List.getElem?_eq_none (by omega)]
    rfl
section LWA
variable {p : Program} {l : Launch} {e : Env} {R : Room} {s : State} {m : MethodId} {args : Array Value} {below : List Frame} {meth : Method} {c : Code} {H : Heap} {locs : List Loc} {cells slots : Nat} {Q : State → Prop}
variable {cc : ByteArray} {pc : Nat} {ls : Array Slot} {rest : List Value} {nL : Nat} {Ts : List Cond} {own : String} {g : xG} {A : Nat → Prop} {ws X : va_W} {a b L : Nat} {xs : Nat → Int32}
theorem x_sld (C : xLw p s m args c g A b L xs) (Z : xSt g A s ws H locs) {x : Int} (hx : 0 ≤ x ∧ x < (L : Int)) (hdg : decode code pc = .ok (.iaload, 1)) (kk : W p l e R s m args below meth c H locs cells slots Q (F0 m (pc + 1) ls (.int (iI (sv xs x)) :: rest))) : W p l e R s m args below meth c H locs cells slots Q (F0 m pc ls (.int (iI x) :: .ref b :: rest)) := by
  obtain ⟨C, hX, hbl, hbA, hL⟩ := C
  refine va_sld C.1 C.2.1 hX hbl hbA Z.2.2 (iI_in (by omega) hx) hdg ?_
  rw [iI_clamp hx.1 (by omega)]
  unfold sv at kk
  rw [iI_of] at kk
  exact kk
theorem x_slen (C : xLw p s m args c g A b L xs) (Z : xSt g A s ws H locs) (hdg : decode code pc = .ok (.arraylength, 1)) (kk : W p l e R s m args below meth c H locs cells slots Q (F0 m (pc + 1) ls (.int (iI (L : Int)) :: rest))) : W p l e R s m args below meth c H locs cells slots Q (F0 m pc ls (.ref b :: rest)) := by
  obtain ⟨C, hX, hbl, hbA, hL⟩ := C
  exact va_slen C.1 C.2.1 hX hbl hbA Z.2.2 hdg kk
theorem x_callA (C : xCx p s m args c cc nL Ts own g A) {rv : Int} {b : Nat} {As st : List Value} {y : MethodName} {CC : String} {bytes : ByteArray} {maxL n index : Nat} {ret : Option FieldType} {wsy : List Cond} {rm : Room} {ci N q0 : Nat} {T : u_T} {fs : List Value} {wc w1 pl : va_W} (Z : xSt g A s (wc ++ pl) H locs) (hM : xMi l y wsy rm g (.ref b :: As) wc w1 rv) (hG : GoodIn Ts (wsV own index CC y wsy)) (hY : xY y CC bytes maxL ret wsy rm n) (hR : rm.frames + 1 ≤ R.frames ∧ 8 + (maxL + 11) + rm.locals ≤ R.locals) (he : wc[q0]? = some (b, .inr (ci, fs))) (hcl : vwCl[ci]? = some (CC, T, N)) (hcs : cells ≤ R.cells ∧ slots ≤ R.slots) (hls : ls.size = nL) (hn : As.length = n) (hcat : (rest.map fun v => v.category).sum ≤ 8) (hst : st = As.reverse ++ .ref b :: rest) (hdg : decode cc pc = .ok (.invokevirtual index, 3)) (kk : ∀ (H1 : Heap) (locs1 : List Loc), xSt g A s (w1 ++ pl) H1 locs1 → W p l e R s m args below meth c H1 locs1 cells slots Q (F0 m (pc + 3) ls (.int (iI rv) :: rest))) : W p l e R s m args below meth c H locs cells slots Q (F0 m pc ls st) := by
  have hlt : ∀ (k : Nat) (q : Nat × va_E), wc[k]? = some q → (wc ++ pl)[k]? = some q := fun k q h => by
    rw [List.getElem?_append_left (List.getElem?_eq_some_iff.mp h).1]; exact h
  have hPc : va_P g.1 vwCl wc H := fun k q h => Z.1 k q (hlt k q h)
  have hDc : va_D (fun _ => True) wc := ⟨fun i j x y hx hy hxy => Z.2.1.1 i j x y (hlt i x hx) (hlt j y hy) hxy, fun _ _ _ => trivial⟩
  have hF : ∀ q, va_A wc H.size q → A q := fun q h => h.elim (fun ⟨k, e, h⟩ => Z.2.1.2 k (q, e) (hlt k _ h)) (fun h => C.2.2.2.2.2.2.2 q (Nat.le_trans Z.2.2.1 h))
  refine x_runV_i C hPc hDc hF Z.2.2 hM hG hY hR he hcl hcs hls hn hcat hst hdg (fun H1 locs1 h1 h2 h3 h4 => kk H1 locs1 ?_)
  obtain ⟨hP, hD⟩ := va_joinQ (X := wc) (cx := wc) (wr := []) (w1 := w1) (pl := pl) Z.1 Z.2.1 (List.range wc.length) [] (x_rng wc) rfl rfl (fun i h => absurd h List.not_mem_nil) h3 hF h1 h2
  exact ⟨hP, hD, h4⟩
end LWA
