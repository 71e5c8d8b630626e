abbrev Row : Type := Int → Int
abbrev BegS : Type := Row × Row × Int × Int
abbrev BegS.starts (x : BegS) : Row := x.1
abbrev BegS.shared (x : BegS) : Row := x.2.1
abbrev BegS.size (x : BegS) : Int := x.2.2.1
abbrev BegS.version (x : BegS) : Int := x.2.2.2
abbrev ClsS : Type := Row × (Int → Row) × Row × Row × Row × Row × Row × Row × Row × Int × Int × Int
abbrev ClsS.endCounts (x : ClsS) : Row := x.1
abbrev ClsS.classOf (x : ClsS) : (Int → Row) := x.2.1
abbrev ClsS.firstEnds (x : ClsS) : Row := x.2.2.1
abbrev ClsS.longest (x : ClsS) : Row := x.2.2.2.1
abbrev ClsS.shortest (x : ClsS) : Row := x.2.2.2.2.1
abbrev ClsS.ends (x : ClsS) : Row := x.2.2.2.2.2.1
abbrev ClsS.links (x : ClsS) : Row := x.2.2.2.2.2.2.1
abbrev ClsS.wordSets (x : ClsS) : Row := x.2.2.2.2.2.2.2.1
abbrev ClsS.stepSets (x : ClsS) : Row := x.2.2.2.2.2.2.2.2.1
abbrev ClsS.letterSet (x : ClsS) : Int := x.2.2.2.2.2.2.2.2.2.1
abbrev ClsS.size (x : ClsS) : Int := x.2.2.2.2.2.2.2.2.2.2.1
abbrev ClsS.version (x : ClsS) : Int := x.2.2.2.2.2.2.2.2.2.2.2
abbrev HisS : Type := Row × Row × Row × Row × Int
abbrev HisS.parents (x : HisS) : Row := x.1
abbrev HisS.steps (x : HisS) : Row := x.2.1
abbrev HisS.wordCounts (x : HisS) : Row := x.2.2.1
abbrev HisS.letterCounts (x : HisS) : Row := x.2.2.2.1
abbrev HisS.size (x : HisS) : Int := x.2.2.2.2
abbrev PadS : Type := Row × Int
abbrev PadS.characters (x : PadS) : Row := x.1
abbrev PadS.size (x : PadS) : Int := x.2
abbrev TxtS : Type := Row × Row × Row × Row × Row × Int × Int × Int
abbrev TxtS.letters (x : TxtS) : Row := x.1
abbrev TxtS.words (x : TxtS) : Row := x.2.1
abbrev TxtS.places (x : TxtS) : Row := x.2.2.1
abbrev TxtS.rests (x : TxtS) : Row := x.2.2.2.1
abbrev TxtS.starts (x : TxtS) : Row := x.2.2.2.2.1
abbrev TxtS.wordCount (x : TxtS) : Int := x.2.2.2.2.2.1
abbrev TxtS.length (x : TxtS) : Int := x.2.2.2.2.2.2.1
abbrev TxtS.version (x : TxtS) : Int := x.2.2.2.2.2.2.2
abbrev SwpS : Type := Row
abbrev MvS : Type := Row × Row × Row × Row × Int × Int
abbrev MvS.parent (x : MvS) : Row := x.1
abbrev MvS.added (x : MvS) : Row := x.2.1
abbrev MvS.wordMany (x : MvS) : Row := x.2.2.1
abbrev MvS.letterMany (x : MvS) : Row := x.2.2.2.1
abbrev MvS.versions (x : MvS) : Int := x.2.2.2.2.1
abbrev MvS.present (x : MvS) : Int := x.2.2.2.2.2
abbrev MpS : Type := Row × Int
abbrev MpS.pad (x : MpS) : Row := x.1
abbrev MpS.padMany (x : MpS) : Int := x.2
abbrev MtS : Type := Row × Row × Row × Row × Row × Row × Row
abbrev MtS.text (x : MtS) : Row := x.1
abbrev MtS.wordOf (x : MtS) : Row := x.2.1
abbrev MtS.start (x : MtS) : Row := x.2.2.1
abbrev MtS.stop (x : MtS) : Row := x.2.2.2.1
abbrev MtS.many (x : MtS) : Row := x.2.2.2.2.1
abbrev MtS.words (x : MtS) : Row := x.2.2.2.2.2.1
abbrev MtS.line (x : MtS) : Row := x.2.2.2.2.2.2
abbrev MsS : Type := Row × Row
abbrev MsS.sorted (x : MsS) : Row := x.1
abbrev MsS.near (x : MsS) : Row := x.2
abbrev McS : Type := Row × Row × Row × Row × Int
abbrev McS.classLast (x : McS) : Row := x.1
abbrev McS.classShort (x : McS) : Row := x.2.1
abbrev McS.classLong (x : McS) : Row := x.2.2.1
abbrev McS.classEnds (x : McS) : Row := x.2.2.2.1
abbrev McS.classes (x : McS) : Int := x.2.2.2.2
abbrev MrS : Type := Row
def up2 (M : Int → Row) (i : Int) (r : Row) : Int → Row := fun j => if j = i then r else M j
abbrev wB (g : xG) (a : Nat → Nat) (s0 : BegS) : va_W := [(a 0, .inr (0, [.ref (a 1), .ref (a 2), .int (iI s0.size), .int (iI s0.version)])), (a 1, .inl (g.2.1, 60, .inl (lf s0.starts))), (a 2, .inl (g.2.1, 60, .inl (lf s0.shared)))]
abbrev wC (g : xG) (a : Nat → Nat) (o0 : Nat) (rr : Nat → Nat) (s0 : ClsS) : va_W := [(a 0, .inr (1, [.ref o0, .ref (a 1), .ref (a 2), .ref (a 3), .ref (a 4), .ref (a 5), .ref (a 6), .ref (a 7), .ref (a 8), .ref (a 9), .int (iI s0.letterSet), .int (iI s0.size), .int (iI s0.version)])), (a 1, .inl (g.2.1, 61, .inl (lf s0.endCounts))), (a 2, .inl (g.2.2, 60, .inr (.inr (.inr (.inr (fun i => if i < 60 then some (rr i) else none)))))), (a 3, .inl (g.2.1, 120, .inl (lf s0.firstEnds))), (a 4, .inl (g.2.1, 120, .inl (lf s0.longest))), (a 5, .inl (g.2.1, 120, .inl (lf s0.shortest))), (a 6, .inl (g.2.1, 120, .inl (lf s0.ends))), (a 7, .inl (g.2.1, 120, .inl (lf s0.links))), (a 8, .inl (g.2.1, 120, .inl (lf s0.wordSets))), (a 9, .inl (g.2.1, 120, .inl (lf s0.stepSets)))]
abbrev wH (g : xG) (a : Nat → Nat) (s0 : HisS) : va_W := [(a 0, .inr (2, [.ref (a 1), .ref (a 2), .ref (a 3), .ref (a 4), .int (iI s0.size)])), (a 1, .inl (g.2.1, 400, .inl (lf s0.parents))), (a 2, .inl (g.2.1, 400, .inl (lf s0.steps))), (a 3, .inl (g.2.1, 400, .inl (lf s0.wordCounts))), (a 4, .inl (g.2.1, 400, .inl (lf s0.letterCounts)))]
abbrev wP (g : xG) (a : Nat → Nat) (s0 : PadS) : va_W := [(a 0, .inr (3, [.ref (a 1), .int (iI s0.size)])), (a 1, .inl (g.2.1, 60, .inl (lf s0.characters)))]
abbrev wT (g : xG) (a : Nat → Nat) (s0 : TxtS) : va_W := [(a 0, .inr (5, [.ref (a 1), .ref (a 2), .ref (a 3), .ref (a 4), .ref (a 5), .int (iI s0.wordCount), .int (iI s0.length), .int (iI s0.version)])), (a 1, .inl (g.2.1, 60, .inl (lf s0.letters))), (a 2, .inl (g.2.1, 60, .inl (lf s0.words))), (a 3, .inl (g.2.1, 60, .inl (lf s0.places))), (a 4, .inl (g.2.1, 60, .inl (lf s0.rests))), (a 5, .inl (g.2.1, 6, .inl (lf s0.starts)))]
abbrev wS (g : xG) (a : Nat → Nat) (s0 : SwpS) : va_W := [(a 0, .inr (4, [.ref (a 1)])), (a 1, .inl (g.2.1, 60, .inl (lf s0)))]
abbrev wF (g : xG) (a : Nat → Nat) (o0 : Nat) (o1 : Nat) (o2 : Nat) (o3 : Nat) (o4 : Nat) (o5 : Nat) (o6 : Nat) (o7 : Nat) (o8 : Nat) (o9 : Nat) (s0 : Int) : va_W := [(a 0, .inr (6, [.ref o0, .ref o1, .ref o2, .ref o3, .ref o4, .ref o5, .ref o6, .ref o7, .ref o8, .ref o9, .int (iI s0)]))]
abbrev wM (g : xG) (a : Nat → Nat) (s0 : MvS) (s1 : MpS) (s2 : MtS) (s3 : MsS) (s4 : McS) (s5 : MrS) : va_W := [(a 0, .inr (7, [.ref (a 1), .ref (a 2), .ref (a 3), .ref (a 4), .int (iI s0.versions), .int (iI s0.present), .ref (a 5), .int (iI s1.padMany), .ref (a 6), .ref (a 7), .ref (a 8), .ref (a 9), .ref (a 10), .ref (a 11), .ref (a 12), .ref (a 13), .ref (a 14), .ref (a 15), .ref (a 16), .ref (a 17), .ref (a 18), .int (iI s4.classes), .ref (a 19)])), (a 1, .inl (g.2.1, 400, .inl (lf s0.parent))), (a 2, .inl (g.2.1, 400, .inl (lf s0.added))), (a 3, .inl (g.2.1, 400, .inl (lf s0.wordMany))), (a 4, .inl (g.2.1, 400, .inl (lf s0.letterMany))), (a 5, .inl (g.2.1, 60, .inl (lf s1.pad))), (a 6, .inl (g.2.1, 120, .inl (lf s2.text))), (a 7, .inl (g.2.1, 120, .inl (lf s2.wordOf))), (a 8, .inl (g.2.1, 12, .inl (lf s2.start))), (a 9, .inl (g.2.1, 12, .inl (lf s2.stop))), (a 10, .inl (g.2.1, 2, .inl (lf s2.many))), (a 11, .inl (g.2.1, 2, .inl (lf s2.words))), (a 12, .inl (g.2.1, 70, .inl (lf s2.line))), (a 13, .inl (g.2.1, 60, .inl (lf s3.sorted))), (a 14, .inl (g.2.1, 60, .inl (lf s3.near))), (a 15, .inl (g.2.1, 200, .inl (lf s4.classLast))), (a 16, .inl (g.2.1, 200, .inl (lf s4.classShort))), (a 17, .inl (g.2.1, 200, .inl (lf s4.classLong))), (a 18, .inl (g.2.1, 200, .inl (lf s4.classEnds))), (a 19, .inl (g.2.1, 61, .inl (lf s5)))]
def wR (g : xG) (rr : Nat → Nat) (M : Int → Row) : va_W := (List.range 60).map (fun i => (rr i, .inl (g.2.1, 61, .inl (lf (M (i : Int))))))
def bk {α : Type} (x : Int) (k : Option α) : Option α := if x = 0 ∨ x = 1 then k else none
theorem bk_some {α : Type} {x : Int} {k : Option α} {r : α} (h : bk x k = some r) : (x = 0 ∨ x = 1) ∧ k = some r := by
  unfold bk at h; split at h
  · exact ⟨by assumption, h⟩
  · cases h
theorem x_bool {x : Int} (h : x = 0 ∨ x = 1) : narrow .boolean (.int (iI x)) = .int (iI x) := by
  rcases h with rfl | rfl <;> rfl
theorem wR_at {X : va_W} (g : xG) (rr : Nat → Nat) (M : Int → Row) {x : Int} (hx : 0 ≤ x ∧ x < 60) : (X ++ wR g rr M)[X.length + x.toNat]? = some (rr x.toNat, .inl (g.2.1, 61, .inl (lf (M x)))) := by
  rw [List.getElem?_append_right (Nat.le_add_right ..), Nat.add_sub_cancel_left]
  unfold wR
  rw [List.getElem?_map, List.getElem?_range (by omega)]
  show some (rr x.toNat, _) = _
  rw [Int.toNat_of_nonneg hx.1]
theorem wR_set {X : va_W} (g : xG) (rr : Nat → Nat) (M : Int → Row) (R : Row) {x : Int} (hx : 0 ≤ x ∧ x < 60) : (X ++ wR g rr M).set (X.length + x.toNat) (rr x.toNat, .inl (g.2.1, 61, .inl (lf R))) = X ++ wR g rr (up2 M x R) := by
  rw [List.set_append_right _ _ (Nat.le_add_right ..), Nat.add_sub_cancel_left]
  congr 1
  apply List.ext_getElem?
  intro i
  by_cases h : i = x.toNat
  · subst h
    rw [List.getElem?_set_self (by unfold wR; rw [List.length_map, List.length_range]; omega)]
    unfold wR
    rw [List.getElem?_map, List.getElem?_range (by omega)]
    show _ = some (rr x.toNat, _)
    rw [Int.toNat_of_nonneg hx.1]
    simp [up2]
  · rw [List.getElem?_set_ne (Ne.symm h)]
    unfold wR
    rw [List.getElem?_map, List.getElem?_map]
    by_cases h2 : i < 60
    · rw [List.getElem?_range h2]
      show some (rr i, _) = some (rr i, _)
      have : ¬ ((i : Int) = x) := by omega
      simp [up2, this]
    · rw [List.getElem?_eq_none (by rw [List.length_range]; omega)]
      rfl
section XRR
variable {p : Program} {l : Launch} {e : Env} {R : Room} {s : State} {m : MethodId} {args : Array Value} {below : List Frame} {meth : Method} {c : Code} {H : Heap} {locs : List Loc} {cells slots : Nat} {Q : State → Prop}
variable {cc : ByteArray} {pc : Nat} {ls : Array Slot} {rest : List Value} {nL : Nat} {Ts : List Cond} {own : String} {g : xG} {A : Nat → Prop} {ws X : va_W} {a : Nat}
theorem x_aaldG (C : xCx p s m args c cc nL Ts own g A) (Z : xSt g A s ws H locs) (q0 : Nat) {n : Nat} {f : Nat → Option Nat} {i : Int32} (ha : ws[q0]? = some (a, .inl (g.2.2, n, .inr (.inr (.inr (.inr f)))))) (hin : vp_in i n) (hdg : decode cc pc = .ok (.aaload, 1)) (kk : W p l e R s m args below meth c H locs cells slots Q (F0 m (pc + 1) ls (va_rf (f i.toNatClampNeg) :: rest))) : W p l e R s m args below meth c H locs cells slots Q (F0 m pc ls (.int i :: .ref a :: rest)) := by
  have hlt : i.toNatClampNeg < n := Nat.not_le.mp fun q => hin (Or.inr q)
  exact W.aald (v := va_rf (f i.toNatClampNeg)) (ty := .array .int) C.1 C.2.1 (Z.1 q0 _ ha) ((C.2.2.2.2.2.1.2 1 _ rfl).1 n (fun j => va_rf (f j))) rfl (fun q => by cases q) (by show ¬ (i < 0 ∨ (arrV _ _ _).slots.size ≤ _); rw [arrV_size]; exact hin) (by show (arrV _ _ _).slots[_]? = _; rw [arrV_read _ _ hlt]) rfl rfl hdg kk
theorem x_aald (C : xCx p s m args c cc nL Ts own g A) (Z : xSt g A s ws H locs) (q0 : Nat) {rr : Nat → Nat} {x : Int} (ha : ws[q0]? = some (a, .inl (g.2.2, 60, .inr (.inr (.inr (.inr (fun i => if i < 60 then some (rr i) else none))))))) (hx : 0 ≤ x ∧ x < 60) (hdg : decode cc pc = .ok (.aaload, 1)) (kk : W p l e R s m args below meth c H locs cells slots Q (F0 m (pc + 1) ls (.ref (rr x.toNat) :: rest))) : W p l e R s m args below meth c H locs cells slots Q (F0 m pc ls (.int (iI x) :: .ref a :: rest)) := by
  refine x_aaldG C Z q0 ha (iI_in (by decide) hx) hdg ?_
  have e : va_rf (if (iI x).toNatClampNeg < 60 then some (rr (iI x).toNatClampNeg) else none) = .ref (rr x.toNat) := by
    rw [iI_clamp hx.1 (by omega), if_pos (by omega)]
    rfl
  rw [e]
  exact kk
theorem x_rald (C : xCx p s m args c cc nL Ts own g A) {rr : Nat → Nat} {M : Int → Row} (Z : xSt g A s (X ++ wR g rr M) H locs) {x y : Int} (hx : 0 ≤ x ∧ x < 60) (hy : 0 ≤ y ∧ y < 61) (hdg : decode cc pc = .ok (.iaload, 1)) (kk : W p l e R s m args below meth c H locs cells slots Q (F0 m (pc + 1) ls (.int (iI (M x y)) :: rest))) : W p l e R s m args below meth c H locs cells slots Q (F0 m pc ls (.int (iI y) :: .ref (rr x.toNat) :: rest)) :=
  x_iald C Z _ (wR_at g rr M hx) (by decide) hy hdg kk
theorem x_rast (C : xCx p s m args c cc nL Ts own g A) {rr : Nat → Nat} {M : Int → Row} (Z : xSt g A s (X ++ wR g rr M) H locs) {x y v : Int} (hx : 0 ≤ x ∧ x < 60) (hy : 0 ≤ y ∧ y < 61) (hdg : decode cc pc = .ok (.iastore, 1)) (kk : ∀ (H1 : Heap) (locs1 : List Loc), xSt g A s (X ++ wR g rr (up2 M x (up (M x) y v))) H1 locs1 → W p l e R s m args below meth c H1 locs1 cells slots Q (F0 m (pc + 1) ls rest)) : W p l e R s m args below meth c H locs cells slots Q (F0 m pc ls (.int (iI v) :: .int (iI y) :: .ref (rr x.toNat) :: rest)) :=
  x_iast C Z _ (wR_at g rr M hx) (by decide) hy hdg (wR_set g rr M _ hx) kk
theorem x_ldcw (C : xCx p s m args c cc nL Ts own g A) {index : Nat} {v : Int32} {x : Int} (hdg : decode cc pc = .ok (.ldc_w index, 3)) (hts : (Cond.constant own index v).before args s = true) (hv : v = iI x) (kk : W p l e R s m args below meth c H locs cells slots Q (F0 m (pc + 3) ls (.int (iI x) :: rest))) : W p l e R s m args below meth c H locs cells slots Q (F0 m pc ls rest) := by
  intro T hT X
  subst hv
  obtain ⟨t, a, b⟩ := kk T hT X
  refine ⟨t, ?_, b⟩
  obtain ⟨k, cf, bytes, hk, hcf, hcp, hbb⟩ := Cond.constant_spec C.2.2.2.1 hts
  obtain ⟨k', hk', he⟩ := X.warmed.alike.2.2 _ _ hk
  jvm_step X.here [C.1, C.2.1, hdg, ldc_w.wp_int (s := T) (f := F0 m pc ls rest) X.here.top hk' (by rw [he]; exact hcf) hcp, hbb]
  exact a
end XRR
theorem lp_L2 {σ ρ : Type} {body : σ → Option (σ ⊕ ρ)} {n : Nat} {z : σ} {r : ρ} (h : (∃ s', (Sum.inl z : σ ⊕ ρ) = .inl s' ∧ lp body n s' = some r) ∨ (Sum.inl z : σ ⊕ ρ) = .inr r) : lp body n z = some r := by
  rcases h with ⟨s', e, h⟩ | h
  · cases e; exact h
  · cases h
