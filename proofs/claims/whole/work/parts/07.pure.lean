def p_X2_has (sH : HisS) (v1 : Int) : Option (Int) :=
  ck v1 (if v1 < 0 then some 0 else ck sH.size (if v1 < sH.size then some 1 else some 0))
def p_X2_wordsIn (sH : HisS) (v1 : Int) : Option (Int) :=
  (p_X2_has sH v1).bind fun r1 => ck r1 (if r1 = 0 then some 0 else ix v1 400 (some (sH.wordCounts v1)))
def p_X2_hasRoomFor (sH : HisS) (v1 : Int) : Option (Int) :=
  ck v1 (ck (400 - sH.size) (if 400 - sH.size < v1 then some 0 else some 1))
def p_X2_grow_j97 (sH_97 : HisS) (t1_97 : Int) (t2_97 : Int) (t3_97 : Int) : Option (Int × HisS) :=
  ix t1_97 400 (some ((sH_97.size + 1) - 1, (sH_97.parents, sH_97.steps, sH_97.wordCounts, up sH_97.letterCounts t1_97 (t2_97 + t3_97), sH_97.size + 1)))
def p_X2_grow_j72 (sH_72 : HisS) (v1_72 : Int) (v3_72 : Int) (t1_72 : Int) (t2_72 : Int) (t3_72 : Int) : Option (Int × HisS) :=
  ix t1_72 400 (ix v1_72 400 (ck v3_72 (if v3_72 = 0 then p_X2_grow_j97 (sH_72.parents, sH_72.steps, up sH_72.wordCounts t1_72 (t2_72 + t3_72), sH_72.letterCounts, sH_72.size) sH_72.size (sH_72.letterCounts v1_72) 1 else p_X2_grow_j97 (sH_72.parents, sH_72.steps, up sH_72.wordCounts t1_72 (t2_72 + t3_72), sH_72.letterCounts, sH_72.size) sH_72.size (sH_72.letterCounts v1_72) 0)))
def p_X2_grow_j28 (sH_28 : HisS) (v1_28 : Int) (v2_28 : Int) (t0_28 : Int) : Option (Int × HisS) :=
  ix sH_28.size 400 (ix v1_28 400 (ck t0_28 (if t0_28 = 0 then p_X2_grow_j72 (up sH_28.parents sH_28.size v1_28, up sH_28.steps sH_28.size v2_28, sH_28.wordCounts, sH_28.letterCounts, sH_28.size) v1_28 t0_28 sH_28.size (sH_28.wordCounts v1_28) 0 else p_X2_grow_j72 (up sH_28.parents sH_28.size v1_28, up sH_28.steps sH_28.size v2_28, sH_28.wordCounts, sH_28.letterCounts, sH_28.size) v1_28 t0_28 sH_28.size (sH_28.wordCounts v1_28) 1)))
def p_X2_grow (sH : HisS) (v1 : Int) (v2 : Int) : Option (Int × HisS) :=
  (p_X2_has sH v1).bind fun r22 => ck r22 (if r22 = 0 then some (v1, sH) else (p_X2_hasRoomFor sH 1).bind fun r30 => ck r30 (if r30 = 0 then some (v1, sH) else ck v2 (if v2 = (-1) then p_X2_grow_j28 sH v1 v2 1 else p_X2_grow_j28 sH v1 v2 0)))
def p_X6_begin (sF : Int) (sH : HisS) : Option (Int × Int × HisS) :=
  (p_X2_wordsIn sH sF).bind fun r1 => ck r1 (if r1 < 6 then (p_X2_hasRoomFor sH 1).bind fun r9 => ck r9 (if r9 = 0 then some ((-4), sF, sH) else (p_X2_grow sH sF (-1)).bind fun r16 => some (r16.1, r16.1, r16.2)) else some ((-4), sF, sH))
def p_X6_isLetter (v0 : Int) : Option (Int) :=
  ck v0 (if v0 < 0 then some 0 else if v0 < 8 then some 1 else some 0)
def p_X2_lettersIn (sH : HisS) (v1 : Int) : Option (Int) :=
  (p_X2_has sH v1).bind fun r1 => ck r1 (if r1 = 0 then some 0 else ix v1 400 (some (sH.letterCounts v1)))
def p_X6_append (sF : Int) (sH : HisS) (v1 : Int) : Option (Int × Int × HisS) :=
  (p_X6_isLetter v1).bind fun r1 => ck r1 (if r1 = 0 then some ((-2), sF, sH) else (p_X2_wordsIn sH sF).bind fun r8 => ck r8 (if r8 = 0 then some ((-5), sF, sH) else (p_X2_lettersIn sH sF).bind fun r15 => ck r15 (if r15 < 60 then (p_X2_hasRoomFor sH 1).bind fun r23 => ck r23 (if r23 = 0 then some ((-4), sF, sH) else (p_X2_grow sH sF v1).bind fun r30 => some (r30.1, r30.1, r30.2)) else some ((-4), sF, sH))))
def p_X3_firstFault_j44 (n : Nat) (v2_44 : Int) : Option ((Int) ⊕ ((Int) ⊕ (Unit))) :=
  some (.inr (.inl v2_44))
def p_X3_firstFault_j40 (n : Nat) (v2_40 : Int) : Option ((Int) ⊕ ((Int) ⊕ (Unit))) :=
  some (.inl (v2_40 + 1))
def p_X3_firstFault_b2 (n : Nat) (sP : PadS) (v1 : Int) (z2 : Int) : Option ((Int) ⊕ ((Int) ⊕ (Unit))) :=
  ck z2 (ck sP.size (if z2 < sP.size then ix z2 60 ((p_X6_isLetter ((sP.characters z2) - 97)).bind fun r24 => ck r24 (if r24 = 0 then ck v1 (if v1 = 0 then p_X3_firstFault_j44 n z2 else ck (sP.characters z2) (if sP.characters z2 = 47 then p_X3_firstFault_j40 n z2 else p_X3_firstFault_j44 n z2)) else p_X3_firstFault_j40 n z2)) else some (.inr (.inr ()))))
def p_X3_firstFault (n : Nat) (sP : PadS) (v1 : Int) : Option (Int) :=
  (lp (p_X3_firstFault_b2 n sP v1) n 0).bind fun ex2 => Sum.elim (fun q2 => some q2) (fun e2 => some (-6)) ex2
def p_X3_faultAsWords (n : Nat) (sP : PadS) : Option (Int) :=
  (p_X3_firstFault n sP 1).bind fun r1 => some r1
def p_X3_size (sP : PadS) : Option (Int) :=
  some sP.size
def p_X3_slashes_b4 (n : Nat) (sP : PadS) (z4 : Int × Int) : Option ((Int × Int) ⊕ (Int)) :=
  ck z4.2 (ck sP.size (if z4.2 < sP.size then ix z4.2 60 (ck (sP.characters z4.2) (if sP.characters z4.2 = 47 then some (.inl (z4.1 + 1, z4.2 + 1)) else some (.inl (z4.1, z4.2 + 1)))) else some (.inr z4.1)))
def p_X3_slashes (n : Nat) (sP : PadS) : Option (Int) :=
  (lp (p_X3_slashes_b4 n sP) n (0, 0)).bind fun ex4 => some ex4
def p_X3_characterAt (sP : PadS) (v1 : Int) : Option (Int) :=
  ck v1 (if v1 < 0 then some (-6) else ck sP.size (if v1 < sP.size then ix v1 60 (some (sP.characters v1)) else some (-6)))
def p_X3_clear (sP : PadS) : Option (PadS) :=
  some (sP.characters, 0)
def p_X6_load_j158 (n : Nat) (sH_158 : HisS) (v5_158 : Int) (t2_158 : Int) (t3_158 : Int) : Option ((Int × Int × HisS) ⊕ (Int × HisS)) :=
  (p_X2_grow sH_158 t2_158 t3_158).bind fun r23 => some (.inl (v5_158 + 1, r23.1, r23.2))
def p_X6_load_b116 (n : Nat) (sP : PadS) (v1 : Int) (z116 : Int × Int × HisS) : Option ((Int × Int × HisS) ⊕ (Int × HisS)) :=
  ck z116.1 (ck v1 (if z116.1 < v1 then (p_X3_characterAt sP z116.1).bind fun r33 => ck r33 (if r33 = 47 then p_X6_load_j158 n z116.2.2 z116.1 z116.2.1 (-1) else p_X6_load_j158 n z116.2.2 z116.1 z116.2.1 (r33 - 97)) else some (.inr (z116.2.1, z116.2.2))))
def p_X6_load_j67 (n : Nat) (sF_67 : Int) (sH_67 : HisS) (sP_67 : PadS) (v1_67 : Int) (v2_67 : Int) (v3_67 : Int) : Option (Int × Int × HisS × PadS) :=
  (p_X2_lettersIn sH_67 sF_67).bind fun r1 => ck (v3_67 + v2_67) (if 6 < v3_67 + v2_67 then some ((-4), sF_67, sH_67, sP_67) else ck ((r1 + v1_67) - v2_67) (if 60 < (r1 + v1_67) - v2_67 then some ((-4), sF_67, sH_67, sP_67) else (p_X2_hasRoomFor sH_67 v1_67).bind fun r15 => ck r15 (if r15 = 0 then some ((-4), sF_67, sH_67, sP_67) else (lp (p_X6_load_b116 n sP_67 v1_67) n (0, sF_67, sH_67)).bind fun ex116 => (p_X3_clear sP_67).bind fun r59 => some (ex116.1, ex116.1, ex116.2, r59))))
def p_X6_load (n : Nat) (sF : Int) (sH : HisS) (sP : PadS) : Option (Int × Int × HisS × PadS) :=
  (p_X3_faultAsWords n sP).bind fun r63 => ck r63 (if r63 = (-6) then (p_X3_size sP).bind fun r70 => (p_X3_slashes n sP).bind fun r72 => (p_X2_wordsIn sH sF).bind fun r74 => ck r70 (if 0 < r70 then ck r74 (if r74 = 0 then (p_X3_characterAt sP 0).bind fun r86 => ck r86 (if r86 = 47 then p_X6_load_j67 n sF sH sP r70 r72 r74 else some ((-5), sF, sH, sP)) else p_X6_load_j67 n sF sH sP r70 r72 r74) else p_X6_load_j67 n sF sH sP r70 r72 r74) else some ((-3), sF, sH, sP))
def p_X6_go (sF : Int) (sH : HisS) (v1 : Int) : Option (Int × Int) :=
  (p_X2_has sH v1).bind fun r1 => ck r1 (if r1 = 0 then some ((-1), sF) else some (sF, v1))
def p_X2_parentOf (sH : HisS) (v1 : Int) : Option (Int) :=
  (p_X2_has sH v1).bind fun r1 => ck r1 (if r1 = 0 then some (-6) else ck v1 (if 0 < v1 then ix v1 400 (some (sH.parents v1)) else some (-6)))
def p_X2_ancestorOf_b5 (n : Nat) (sH : HisS) (v2 : Int) (z5 : Int × Int) : Option ((Int × Int) ⊕ (Int)) :=
  ck z5.2 (ck v2 (if z5.2 < v2 then ck z5.1 (if z5.1 = (-6) then some (.inr z5.1) else (p_X2_parentOf sH z5.1).bind fun r15 => some (.inl (r15, z5.2 + 1))) else some (.inr z5.1)))
def p_X2_ancestorOf (n : Nat) (sH : HisS) (v1 : Int) (v2 : Int) : Option (Int) :=
  (lp (p_X2_ancestorOf_b5 n sH v2) n (v1, 0)).bind fun ex5 => some ex5
def p_X6_back (n : Nat) (sF : Int) (sH : HisS) (v1 : Int) : Option (Int × Int) :=
  ck v1 (if v1 < 0 then some ((-2), sF) else if 400 < v1 then some ((-2), sF) else (p_X2_ancestorOf n sH sF v1).bind fun r10 => ck r10 (if r10 = (-6) then some (r10, sF) else some (r10, r10)))
def p_X2_stepOf (sH : HisS) (v1 : Int) : Option (Int) :=
  (p_X2_has sH v1).bind fun r1 => ck r1 (if r1 = 0 then some (-6) else ix v1 400 (some (sH.steps v1)))
def p_X5_putStart (sT : TxtS) (v1 : Int) (v2 : Int) : Option (TxtS) :=
  ck v1 (if v1 < 0 then some sT else if v1 < 6 then ix v1 6 (some (sT.letters, sT.words, sT.places, sT.rests, up sT.starts v1 v2, sT.wordCount, sT.length, sT.version)) else some sT)
def p_X5_has (sT : TxtS) (v1 : Int) : Option (Int) :=
  ck v1 (if v1 < 0 then some 0 else ck sT.length (if v1 < sT.length then some 1 else some 0))
def p_X5_putLetter (sT : TxtS) (v1 : Int) (v2 : Int) (v3 : Int) : Option (TxtS) :=
  (p_X5_has sT v1).bind fun r1 => ck r1 (if r1 = 0 then some sT else ix v1 60 (some (up sT.letters v1 v2, up sT.words v1 v3, sT.places, sT.rests, sT.starts, sT.wordCount, sT.length, sT.version)))
def p_X5_wordStart (sT : TxtS) (v1 : Int) : Option (Int) :=
  ck v1 (if v1 < 0 then some sT.length else ck sT.wordCount (if v1 < sT.wordCount then ix v1 6 (some (sT.starts v1)) else some sT.length))
def p_X5_wordEnd (sT : TxtS) (v1 : Int) : Option (Int) :=
  (p_X5_wordStart sT (v1 + 1)).bind fun r1 => some r1
def p_X5_takeVersion_j109 (n : Nat) (sH : HisS) (sT_109 : TxtS) (v3_109 : Int) (v4_109 : Int) : Option ((Int × Int × TxtS) ⊕ (TxtS)) :=
  (p_X2_parentOf sH v3_109).bind fun r17 => some (.inl (r17, v4_109 + 1, sT_109))
def p_X5_takeVersion_b47 (n : Nat) (sH : HisS) (z47 : Int × Int × TxtS) : Option ((Int × Int × TxtS) ⊕ (TxtS)) :=
  ck z47.2.1 (if z47.2.1 < 400 then ck z47.1 (if 0 < z47.1 then (p_X2_wordsIn sH z47.1).bind fun r31 => (p_X2_stepOf sH z47.1).bind fun r33 => ck r33 (if r33 = (-1) then (p_X2_lettersIn sH z47.1).bind fun r46 => (p_X5_putStart z47.2.2 (r31 - 1) r46).bind fun r48 => p_X5_takeVersion_j109 n sH r48 z47.1 z47.2.1 else (p_X2_lettersIn sH z47.1).bind fun r40 => (p_X2_stepOf sH z47.1).bind fun r42 => (p_X5_putLetter z47.2.2 (r40 - 1) r42 (r31 - 1)).bind fun r44 => p_X5_takeVersion_j109 n sH r44 z47.1 z47.2.1) else some (.inr z47.2.2)) else some (.inr z47.2.2))
def p_X5_takeVersion_b124 (n : Nat) (sT : TxtS) (z124 : Int × Row × Row) : Option ((Int × Row × Row) ⊕ (Row × Row)) :=
  ck z124.1 (ck sT.length (if z124.1 < sT.length then ix z124.1 60 ((p_X5_wordStart (sT.letters, sT.words, z124.2.1, z124.2.2, sT.starts, sT.wordCount, sT.length, sT.version) (sT.words z124.1)).bind fun r95 => (p_X5_wordEnd (sT.letters, sT.words, up z124.2.1 z124.1 (z124.1 - r95), z124.2.2, sT.starts, sT.wordCount, sT.length, sT.version) (sT.words z124.1)).bind fun r99 => some (.inl (z124.1 + 1, up z124.2.1 z124.1 (z124.1 - r95), up z124.2.2 z124.1 (r99 - z124.1)))) else some (.inr (z124.2.1, z124.2.2))))
def p_X5_takeVersion (n : Nat) (sT : TxtS) (sH : HisS) (v2 : Int) : Option (TxtS) :=
  ck sT.version (ck v2 (if sT.version = v2 then some sT else (p_X2_wordsIn sH v2).bind fun r8 => ck r8 ((p_X2_lettersIn sH v2).bind fun r12 => ck r12 ((lp (p_X5_takeVersion_b47 n sH) n (v2, 0, (sT.letters, sT.words, sT.places, sT.rests, sT.starts, min r8 6, min r12 60, v2))).bind fun ex47 => (lp (p_X5_takeVersion_b124 n ex47) n (0, ex47.places, ex47.rests)).bind fun ex124 => some (ex47.letters, ex47.words, ex124.1, ex124.2, ex47.starts, ex47.wordCount, ex47.length, ex47.version)))))
def p_X5_length (sT : TxtS) : Option (Int) :=
  some sT.length
def p_X5_letterAt (sT : TxtS) (v1 : Int) : Option (Int) :=
  (p_X5_has sT v1).bind fun r1 => ck r1 (if r1 = 0 then some 0 else ix v1 60 (some (sT.letters v1)))
def p_X5_placeAt (sT : TxtS) (v1 : Int) : Option (Int) :=
  (p_X5_has sT v1).bind fun r1 => ck r1 (if r1 = 0 then some 0 else ix v1 60 (some (sT.places v1)))
def p_X4_advancea_j100 (n : Nat) (sS_lengths_100 : Row) (v7_100 : Int) (v8_100 : Int) (v9_100 : Int) : Option ((Int × Int × Row) ⊕ (Int × Row)) :=
  ix v8_100 60 (ck v9_100 (ck v7_100 (if v7_100 < v9_100 then some (.inl (v9_100, v8_100 + (-1), up sS_lengths_100 v8_100 v9_100)) else some (.inl (v7_100, v8_100 + (-1), up sS_lengths_100 v8_100 v9_100)))))
def p_X4_advancea_j98 (n : Nat) (sS_lengths_98 : Row) (v7_98 : Int) (v8_98 : Int) (t0_98 : Int) : Option ((Int × Int × Row) ⊕ (Int × Row)) :=
  p_X4_advancea_j100 n sS_lengths_98 v7_98 v8_98 t0_98
def p_X4_advancea_j97 (n : Nat) (sS_lengths_97 : Row) (v7_97 : Int) (v8_97 : Int) : Option ((Int × Int × Row) ⊕ (Int × Row)) :=
  p_X4_advancea_j98 n sS_lengths_97 v7_97 v8_97 1
def p_X4_advancea_b43 (n : Nat) (sT : TxtS) (v5 : Int) (v6 : Int) (z43 : Int × Int × Row) : Option ((Int × Int × Row) ⊕ (Int × Row)) :=
  ck z43.2.1 (if z43.2.1 < 0 then some (.inr (z43.1, z43.2.2)) else ix z43.2.1 60 (ck (sT.letters z43.2.1) (ck v5 (if sT.letters z43.2.1 = v5 then ck v6 (if v6 = 0 then p_X4_advancea_j97 n z43.2.2 z43.1 z43.2.1 else if 0 < z43.2.1 then ck (sT.places z43.2.1) (if 0 < sT.places z43.2.1 then ix (z43.2.1 - 1) 60 (p_X4_advancea_j98 n z43.2.2 z43.1 z43.2.1 ((z43.2.2 (z43.2.1 - 1)) + 1)) else p_X4_advancea_j97 n z43.2.2 z43.1 z43.2.1) else p_X4_advancea_j97 n z43.2.2 z43.1 z43.2.1) else p_X4_advancea_j100 n z43.2.2 z43.1 z43.2.1 0))))
def p_X4_advancea_j20 (n : Nat) (sT : TxtS) (sS_20 : SwpS) (v4_20 : Int) (v5_20 : Int) (t0_20 : Int) : Option (Int × SwpS) :=
  ck v4_20 (ck sT.length (ck (min v4_20 sT.length) ((lp (p_X4_advancea_b43 n sT v5_20 t0_20) n (0, (min (min v4_20 sT.length) 60) - 1, sS_20)).bind fun ex43 => some (ex43.1, ex43.2))))
def p_X4_advancea (n : Nat) (sS : SwpS) (sT : TxtS) (v2 : Int) (v4 : Int) : Option (Int × SwpS) :=
  (p_X5_letterAt sT v2).bind fun r95 => (p_X5_placeAt sT v2).bind fun r97 => ck r97 (if 0 < r97 then p_X4_advancea_j20 n sT sS v4 r95 1 else p_X4_advancea_j20 n sT sS v4 r95 0)
def p_X4_advancen_j100 (n : Nat) (sS_lengths_100 : Row) (v7_100 : Int) (v8_100 : Int) (v9_100 : Int) : Option ((Int × Int × Row) ⊕ (Int × Row)) :=
  ix v8_100 60 (ck v9_100 (ck v7_100 (if v7_100 < v9_100 then some (.inl (v9_100, v8_100 + (-1), up sS_lengths_100 v8_100 v9_100)) else some (.inl (v7_100, v8_100 + (-1), up sS_lengths_100 v8_100 v9_100)))))
def p_X4_advancen_j98 (n : Nat) (sS_lengths_98 : Row) (v7_98 : Int) (v8_98 : Int) (t0_98 : Int) : Option ((Int × Int × Row) ⊕ (Int × Row)) :=
  p_X4_advancen_j100 n sS_lengths_98 v7_98 v8_98 t0_98
def p_X4_advancen_j97 (n : Nat) (sS_lengths_97 : Row) (v7_97 : Int) (v8_97 : Int) : Option ((Int × Int × Row) ⊕ (Int × Row)) :=
  p_X4_advancen_j98 n sS_lengths_97 v7_97 v8_97 1
def p_X4_advancen_b43 (n : Nat) (sU : TxtS) (v5 : Int) (v6 : Int) (z43 : Int × Int × Row) : Option ((Int × Int × Row) ⊕ (Int × Row)) :=
  ck z43.2.1 (if z43.2.1 < 0 then some (.inr (z43.1, z43.2.2)) else ix z43.2.1 60 (ck (sU.letters z43.2.1) (ck v5 (if sU.letters z43.2.1 = v5 then ck v6 (if v6 = 0 then p_X4_advancen_j97 n z43.2.2 z43.1 z43.2.1 else if 0 < z43.2.1 then ck (sU.places z43.2.1) (if 0 < sU.places z43.2.1 then ix (z43.2.1 - 1) 60 (p_X4_advancen_j98 n z43.2.2 z43.1 z43.2.1 ((z43.2.2 (z43.2.1 - 1)) + 1)) else p_X4_advancen_j97 n z43.2.2 z43.1 z43.2.1) else p_X4_advancen_j97 n z43.2.2 z43.1 z43.2.1) else p_X4_advancen_j100 n z43.2.2 z43.1 z43.2.1 0))))
def p_X4_advancen_j20 (n : Nat) (sU : TxtS) (sS_20 : SwpS) (v4_20 : Int) (v5_20 : Int) (t0_20 : Int) : Option (Int × SwpS) :=
  ck v4_20 (ck sU.length (ck (min v4_20 sU.length) ((lp (p_X4_advancen_b43 n sU v5_20 t0_20) n (0, (min (min v4_20 sU.length) 60) - 1, sS_20)).bind fun ex43 => some (ex43.1, ex43.2))))
def p_X4_advancen (n : Nat) (sS : SwpS) (sT : TxtS) (sU : TxtS) (v2 : Int) (v4 : Int) : Option (Int × SwpS) :=
  (p_X5_letterAt sT v2).bind fun r95 => (p_X5_placeAt sT v2).bind fun r97 => ck r97 (if 0 < r97 then p_X4_advancen_j20 n sU sS v4 r95 1 else p_X4_advancen_j20 n sU sS v4 r95 0)
def p_X6_factorsOfOnly_b29 (n : Nat) (sU : TxtS) (sV : TxtS) (z29 : Int × Int × SwpS × SwpS) : Option ((Int × Int × SwpS × SwpS) ⊕ (Int × SwpS × SwpS)) :=
  (p_X5_length sU).bind fun r5 => ck z29.2.1 (ck r5 (if z29.2.1 < r5 then (p_X4_advancea n z29.2.2.1 sU z29.2.1 z29.2.1).bind fun r15 => (p_X5_length sV).bind fun r17 => (p_X4_advancen n z29.2.2.2 sU sV z29.2.1 r17).bind fun r19 => (p_X5_placeAt sU z29.2.1).bind fun r21 => ck r15.1 (ck r19.1 (some (.inl (z29.1 + ((r21 + 1) - (max r15.1 r19.1)), z29.2.1 + 1, r15.2, r19.2)))) else some (.inr (z29.1, z29.2.2.1, z29.2.2.2))))
def p_X6_factorsOfOnly (n : Nat) (sH : HisS) (sU : TxtS) (sV : TxtS) (sS : SwpS) (sR : SwpS) (v1 : Int) (v2 : Int) : Option (Int × TxtS × TxtS × SwpS × SwpS) :=
  (p_X5_takeVersion n sU sH v1).bind fun r1 => (p_X5_takeVersion n sV sH v2).bind fun r3 => (lp (p_X6_factorsOfOnly_b29 n r1 r3) n (0, 0, sS, sR)).bind fun ex29 => some (ex29.1, r1, r3, ex29.2.1, ex29.2.2)
def p_X2_depthOf (sH : HisS) (v1 : Int) : Option (Int) :=
  (p_X2_wordsIn sH v1).bind fun r1 => (p_X2_lettersIn sH v1).bind fun r3 => some (r1 + r3)
def p_X2_childrenOf_b4 (n : Nat) (sH : HisS) (v1 : Int) (z4 : Int × Int) : Option ((Int × Int) ⊕ (Int)) :=
  ck z4.2 (ck sH.size (if z4.2 < sH.size then ix z4.2 400 (ck (sH.parents z4.2) (ck v1 (if sH.parents z4.2 = v1 then some (.inl (z4.1 + 1, z4.2 + 1)) else some (.inl (z4.1, z4.2 + 1))))) else some (.inr z4.1)))
def p_X2_childrenOf (n : Nat) (sH : HisS) (v1 : Int) : Option (Int) :=
  (lp (p_X2_childrenOf_b4 n sH v1) n (0, 1)).bind fun ex4 => some ex4
def p_X6_version (n : Nat) (sH : HisS) (sU : TxtS) (sV : TxtS) (sS : SwpS) (sR : SwpS) (v1 : Int) (v2 : Int) : Option (Int × TxtS × TxtS × SwpS × SwpS) :=
  (p_X2_has sH v1).bind fun r1 => ck r1 (if r1 = 0 then some ((-1), sU, sV, sS, sR) else ck v2 (if v2 = 0 then (p_X2_parentOf sH v1).bind fun r13 => some (r13, sU, sV, sS, sR) else if v2 = 1 then (p_X2_childrenOf n sH v1).bind fun r19 => some (r19, sU, sV, sS, sR) else if v2 = 2 then (p_X2_wordsIn sH v1).bind fun r25 => some (r25, sU, sV, sS, sR) else if v2 = 3 then (p_X2_lettersIn sH v1).bind fun r31 => some (r31, sU, sV, sS, sR) else if v2 = 4 then (p_X2_depthOf sH v1).bind fun r37 => some (r37, sU, sV, sS, sR) else if v2 = 5 then (p_X6_factorsOfOnly n sH sU sV sS sR v1 0).bind fun r43 => some (r43.1, r43.2.1, r43.2.2.1, r43.2.2.2.1, r43.2.2.2.2) else some ((-2), sU, sV, sS, sR)))
def p_X2_latestCommon_b8 (n : Nat) (sH : HisS) (z8 : Int × Int × Int) : Option ((Int × Int × Int) ⊕ (Int)) :=
  ck z8.2.2 (if z8.2.2 < 800 then ck z8.1 (ck z8.2.1 (if z8.1 = z8.2.1 then some (.inr z8.1) else if z8.2.1 < z8.1 then (p_X2_parentOf sH z8.1).bind fun r20 => some (.inl (r20, z8.2.1, z8.2.2 + 1)) else (p_X2_parentOf sH z8.2.1).bind fun r18 => some (.inl (z8.1, r18, z8.2.2 + 1)))) else some (.inr z8.1))
def p_X2_latestCommon (n : Nat) (sH : HisS) (v1 : Int) (v2 : Int) : Option (Int) :=
  (lp (p_X2_latestCommon_b8 n sH) n (v1, v2, 0)).bind fun ex8 => some ex8
def p_X6_meet (n : Nat) (sH : HisS) (v1 : Int) (v2 : Int) : Option (Int) :=
  (p_X2_has sH v1).bind fun r1 => ck r1 (if r1 = 0 then some (-1) else (p_X2_has sH v2).bind fun r9 => ck r9 (if r9 = 0 then some (-1) else (p_X2_latestCommon n sH v1 v2).bind fun r16 => some r16))
def p_X6_more (n : Nat) (sH : HisS) (sU : TxtS) (sV : TxtS) (sS : SwpS) (sR : SwpS) (v1 : Int) (v2 : Int) : Option (Int × TxtS × TxtS × SwpS × SwpS) :=
  (p_X2_has sH v1).bind fun r1 => ck r1 (if r1 = 0 then some ((-1), sU, sV, sS, sR) else (p_X2_has sH v2).bind fun r9 => ck r9 (if r9 = 0 then some ((-1), sU, sV, sS, sR) else (p_X6_factorsOfOnly n sH sU sV sS sR v1 v2).bind fun r16 => some (r16.1, r16.2.1, r16.2.2.1, r16.2.2.2.1, r16.2.2.2.2)))
def p_X6_showPresent (n : Nat) (sF : Int) (sH : HisS) (sT : TxtS) : Option (TxtS) :=
  (p_X5_takeVersion n sT sH sF).bind fun r1 => some r1
def p_X5_wordCount (sT : TxtS) : Option (Int) :=
  some sT.wordCount
def p_X6_letter (n : Nat) (sF : Int) (sH : HisS) (sT : TxtS) (v1 : Int) (v2 : Int) : Option (Int × TxtS) :=
  (p_X6_showPresent n sF sH sT).bind fun r1 => ck v1 (if v1 < 0 then some ((-1), r1) else (p_X5_wordCount r1).bind fun r9 => ck r9 (if v1 < r9 then (p_X5_wordEnd r1 v1).bind fun r16 => (p_X5_wordStart r1 v1).bind fun r18 => ck v2 (if v2 = (-1) then some (r16 - r18, r1) else if v2 < 0 then some ((-6), r1) else ck (r16 - r18) (if v2 < r16 - r18 then (p_X5_wordStart r1 v1).bind fun r34 => (p_X5_letterAt r1 (r34 + v2)).bind fun r36 => some (r36, r1) else some ((-6), r1))) else some ((-1), r1)))
def p_X3_add (sP : PadS) (v1 : Int) : Option (PadS) :=
  ck sP.size (if sP.size < 60 then ix sP.size 60 (some (up sP.characters sP.size v1, sP.size + 1)) else some sP)
def p_X6_say (sP : PadS) (v1 : Int) : Option (Int × PadS) :=
  ck v1 (if v1 < 33 then some ((-2), sP) else if 126 < v1 then some ((-2), sP) else (p_X3_size sP).bind fun r10 => ck r10 (if r10 < 60 then (p_X3_add sP v1).bind fun r17 => (p_X3_size r17).bind fun r19 => some (r19, r17) else some ((-4), sP)))
def p_X6_wipe (sP : PadS) : Option (Int × PadS) :=
  (p_X3_size sP).bind fun r1 => (p_X3_clear sP).bind fun r3 => some (r1, r3)
def p_X6_pad (sP : PadS) (v1 : Int) : Option (Int) :=
  ck v1 (if v1 = (-1) then (p_X3_size sP).bind fun r9 => some r9 else (p_X3_characterAt sP v1).bind fun r6 => some r6)
def p_X3_faultAsPattern (n : Nat) (sP : PadS) : Option (Int) :=
  ck sP.size (if sP.size = 0 then some 0 else (p_X3_firstFault n sP 0).bind fun r6 => some r6)
def p_X6_fault_j12 (n : Nat) (sP : PadS) (v1_12 : Int) : Option (Int) :=
  ck v1_12 (if v1_12 = 0 then (p_X3_faultAsPattern n sP).bind fun r9 => some r9 else (p_X3_faultAsWords n sP).bind fun r6 => some r6)
def p_X6_fault (n : Nat) (sP : PadS) (v1 : Int) : Option (Int) :=
  ck v1 (if v1 = 0 then p_X6_fault_j12 n sP v1 else if v1 = 1 then p_X6_fault_j12 n sP v1 else some (-2))
def p_X5_becomeOneWord_b33 (n : Nat) (sT : TxtS) (z33 : Int × Row × Row × Row) : Option ((Int × Row × Row × Row) ⊕ (Row × Row × Row)) :=
  ck z33.1 (ck sT.length (if z33.1 < sT.length then ix z33.1 60 (some (.inl (z33.1 + 1, up z33.2.1 z33.1 0, up z33.2.2.1 z33.1 z33.1, up z33.2.2.2 z33.1 (sT.length - z33.1)))) else some (.inr (z33.2.1, z33.2.2.1, z33.2.2.2))))
def p_X5_becomeOneWord (n : Nat) (sT : TxtS) (v1 : Int) : Option (TxtS) :=
  ck v1 (ck (min v1 60) ((lp (p_X5_becomeOneWord_b33 n (sT.letters, sT.words, sT.places, sT.rests, up sT.starts 0 0, 1, max 0 (min v1 60), (-1))) n (0, sT.words, sT.places, sT.rests)).bind fun ex33 => some (sT.letters, ex33.1, ex33.2.1, ex33.2.2, up sT.starts 0 0, 1, max 0 (min v1 60), (-1))))
def p_X5_takePattern_b10 (n : Nat) (sT : TxtS) (sP : PadS) (z10 : Int × Row) : Option ((Int × Row) ⊕ (Row)) :=
  ck z10.1 (ck sT.length (if z10.1 < sT.length then (p_X3_characterAt sP z10.1).bind fun r13 => ix z10.1 60 (some (.inl (z10.1 + 1, up z10.2 z10.1 (r13 - 97)))) else some (.inr z10.2)))
def p_X5_takePattern (n : Nat) (sT : TxtS) (sP : PadS) : Option (TxtS) :=
  (p_X3_size sP).bind fun r1 => (p_X5_becomeOneWord n sT r1).bind fun r3 => (lp (p_X5_takePattern_b10 n r3 sP) n (0, r3.letters)).bind fun ex10 => some (ex10, r3.words, r3.places, r3.rests, r3.starts, r3.wordCount, r3.length, r3.version)
def p_X6_readPattern (n : Nat) (sP : PadS) (sQ : TxtS) : Option (Int × TxtS) :=
  (p_X3_faultAsPattern n sP).bind fun r1 => ck r1 (if r1 = (-6) then (p_X5_takePattern n sQ sP).bind fun r8 => some (1, r8) else some (0, sQ))
def p_X5_hasEnd_b34 (n : Nat) (sT : TxtS) (sU : TxtS) (v2 : Int) (v3 : Int) (z34 : Int) : Option ((Int) ⊕ ((Int) ⊕ (Unit))) :=
  ck z34 (ck v3 (if v3 < z34 then some (.inr (.inr ())) else (p_X5_letterAt sT (v2 - z34)).bind fun r29 => (p_X5_letterAt sU (v3 - z34)).bind fun r31 => ck r29 (ck r31 (if r29 = r31 then some (.inl (z34 + 1)) else some (.inr (.inl 0))))))
def p_X5_hasEnd (n : Nat) (sT : TxtS) (sU : TxtS) (v2 : Int) : Option (Int) :=
  (p_X5_has sT v2).bind fun r1 => ck r1 (if r1 = 0 then some 0 else (p_X5_placeAt sT v2).bind fun r9 => (p_X5_length sU).bind fun r11 => ck (r9 + 1) (ck r11 (if r9 + 1 < r11 then some 0 else (p_X5_length sU).bind fun r20 => (lp (p_X5_hasEnd_b34 n sT sU v2 (r20 - 1)) n 0).bind fun ex34 => Sum.elim (fun q34 => some q34) (fun e34 => some 1) ex34)))
def p_X5_endNumber_b5 (n : Nat) (sT : TxtS) (sU : TxtS) (z5 : Int × Int) : Option ((Int × Int) ⊕ ((Int) ⊕ (Unit))) :=
  ck z5.2 (ck sT.length (if z5.2 < sT.length then ck z5.1 (if z5.1 < 0 then some (.inr (.inr ())) else (p_X5_hasEnd n sT sU z5.2).bind fun r13 => ck r13 (if r13 = 0 then some (.inl (z5.1, z5.2 + 1)) else if z5.1 = 0 then some (.inr (.inl z5.2)) else some (.inl (z5.1 + (-1), z5.2 + 1)))) else some (.inr (.inr ()))))
def p_X5_endNumber (n : Nat) (sT : TxtS) (sU : TxtS) (v2 : Int) : Option (Int) :=
  (lp (p_X5_endNumber_b5 n sT sU) n (v2, 0)).bind fun ex5 => Sum.elim (fun q5 => some q5) (fun e5 => some (-6)) ex5
def p_X5_versionTaken (sT : TxtS) : Option (Int) :=
  some sT.version
def p_X4_lengthAt (sS : SwpS) (v1 : Int) : Option (Int) :=
  ck v1 (if v1 < 0 then some 0 else if v1 < 60 then ix v1 60 (some (sS v1)) else some 0)
def p_X1_countEnds_b2 (n : Nat) (v2 : Int) (z2 : Int × Row) : Option ((Int × Row) ⊕ (Row)) :=
  ck z2.1 (ck v2 (if v2 < z2.1 then some (.inr z2.2) else if z2.1 < 61 then ix z2.1 61 (some (.inl (z2.1 + 1, up z2.2 z2.1 0))) else some (.inr z2.2)))
def p_X1_countEnds_b31 (n : Nat) (sK : SwpS) (v1 : Int) (z31 : Int × Row) : Option ((Int × Row) ⊕ (Row)) :=
  ck z31.1 (ck v1 (if z31.1 < v1 then (p_X4_lengthAt sK z31.1).bind fun r39 => ck r39 (if r39 < 0 then some (.inl (z31.1 + 1, z31.2)) else if r39 < 61 then ix r39 61 (some (.inl (z31.1 + 1, up z31.2 r39 ((z31.2 r39) + 1)))) else some (.inl (z31.1 + 1, z31.2))) else some (.inr z31.2)))
def p_X1_countEnds_b92 (n : Nat) (z92 : Int × Row) : Option ((Int × Row) ⊕ (Row)) :=
  ck z92.1 (if z92.1 < 0 then some (.inr z92.2) else ix z92.1 61 (ix (z92.1 + 1) 61 (some (.inl (z92.1 + (-1), up z92.2 z92.1 ((z92.2 z92.1) + (z92.2 (z92.1 + 1))))))))
def p_X1_countEnds (n : Nat) (sC : ClsS) (sK : SwpS) (v1 : Int) (v2 : Int) : Option (ClsS) :=
  (lp (p_X1_countEnds_b2 n v2) n (0, sC.endCounts)).bind fun ex2 => (lp (p_X1_countEnds_b31 n sK v1) n (0, ex2)).bind fun ex31 => ck v2 (ck (61 - 1) ((lp (p_X1_countEnds_b92 n) n ((min v2 (61 - 1)) - 1, ex31)).bind fun ex92 => some (ex92, sC.classOf, sC.firstEnds, sC.longest, sC.shortest, sC.ends, sC.links, sC.wordSets, sC.stepSets, sC.letterSet, sC.size, sC.version)))
def p_X1_classAt_j25 (sC : ClsS) (v1_25 : Int) (v2_25 : Int) (t0_25 : Int) : Option (Int) :=
  ck t0_25 (if t0_25 = 0 then some (-6) else ix v1_25 60 (ix v2_25 61 (some (sC.classOf v1_25 v2_25))))
def p_X1_classAt_j24 (sC : ClsS) (v1_24 : Int) (v2_24 : Int) : Option (Int) :=
  p_X1_classAt_j25 sC v1_24 v2_24 0
def p_X1_classAt (sC : ClsS) (v1 : Int) (v2 : Int) : Option (Int) :=
  ck v1 (if v1 < 0 then p_X1_classAt_j24 sC v1 v2 else if v1 < 60 then ck v2 (if v2 < 0 then p_X1_classAt_j24 sC v1 v2 else if 60 < v2 then p_X1_classAt_j24 sC v1 v2 else p_X1_classAt_j25 sC v1 v2 1) else p_X1_classAt_j24 sC v1 v2)
def p_X1_putClass (sC : ClsS) (v1 : Int) (v2 : Int) (v3 : Int) : Option (ClsS) :=
  ck v1 (if v1 < 0 then some sC else if v1 < 60 then ck v2 (if v2 < 0 then some sC else if 60 < v2 then some sC else ix v1 60 (ix v2 61 (some (sC.endCounts, up2 sC.classOf v1 (up (sC.classOf v1) v2 v3), sC.firstEnds, sC.longest, sC.shortest, sC.ends, sC.links, sC.wordSets, sC.stepSets, sC.letterSet, sC.size, sC.version)))) else some sC)
def p_X1_takeKnown_b7 (n : Nat) (sK : SwpS) (v1 : Int) (z7 : Int × Int × Int) : Option ((Int × Int × Int) ⊕ (Int × Int)) :=
  ck z7.2.2 (ck v1 (if z7.2.2 < v1 then (p_X4_lengthAt sK z7.2.2).bind fun r9 => ck r9 (ck z7.1 (if z7.1 < r9 then (p_X4_lengthAt sK z7.2.2).bind fun r18 => some (.inl (r18, z7.2.2, z7.2.2 + 1)) else some (.inl (z7.1, z7.2.1, z7.2.2 + 1)))) else some (.inr (z7.1, z7.2.1))))
def p_X1_takeKnown_b48 (n : Nat) (v1 : Int) (v2 : Int) (v3 : Int) (z48 : Int × ClsS) : Option ((Int × ClsS) ⊕ (ClsS)) :=
  ck z48.1 (ck v2 (if v2 < z48.1 then some (.inr z48.2) else (p_X1_classAt z48.2 v3 z48.1).bind fun r49 => (p_X1_putClass z48.2 v1 z48.1 r49).bind fun r51 => some (.inl (z48.1 + 1, r51))))
def p_X1_takeKnown (n : Nat) (sC : ClsS) (sK : SwpS) (v1 : Int) : Option (Int × ClsS) :=
  (lp (p_X1_takeKnown_b7 n sK v1) n (0, 0, 0)).bind fun ex7 => (lp (p_X1_takeKnown_b48 n v1 ex7.1 ex7.2) n (1, sC)).bind fun ex48 => some (ex7.1, ex48)
def p_X5_wordAt (sT : TxtS) (v1 : Int) : Option (Int) :=
  (p_X5_has sT v1).bind fun r1 => ck r1 (if r1 = 0 then some 0 else ix v1 60 (some (sT.words v1)))
def p_X5_lettersFrom (sT : TxtS) (v1 : Int) : Option (Int) :=
  (p_X5_has sT v1).bind fun r1 => ck r1 (if r1 = 0 then some 0 else ix v1 60 (some (sT.rests v1)))
def p_X1_addClass_j176 (n : Nat) (sC_176 : ClsS) (v5_176 : Int) (v6_176 : Int) (t1_176 : Int) (t2_176 : Int) : Option (ClsS) :=
  ix t1_176 120 (ix sC_176.size 120 (some (sC_176.endCounts, sC_176.classOf, sC_176.firstEnds, sC_176.longest, sC_176.shortest, sC_176.ends, up sC_176.links t1_176 t2_176, up sC_176.wordSets sC_176.size v5_176, up sC_176.stepSets sC_176.size v6_176, sC_176.letterSet, sC_176.size + 1, sC_176.version)))
def p_X1_addClass_b32 (n : Nat) (sK : SwpS) (sT : TxtS) (v4 : Int) (z32 : Int × Int × Int) : Option ((Int × Int × Int) ⊕ (Int × Int)) :=
  (p_X5_length sT).bind fun r21 => ck z32.2.2 (ck r21 (if z32.2.2 < r21 then (p_X4_lengthAt sK z32.2.2).bind fun r31 => ck r31 (ck v4 (if r31 < v4 then some (.inl (z32.1, z32.2.1, z32.2.2 + 1)) else (p_X5_wordAt sT z32.2.2).bind fun r40 => (p_X5_lettersFrom sT z32.2.2).bind fun r42 => ck r42 (if 1 < r42 then (p_X5_letterAt sT (z32.2.2 + 1)).bind fun r49 => some (.inl (bior z32.1 (bishl 1 r40), bior z32.2.1 (bishl 1 r49), z32.2.2 + 1)) else some (.inl (bior z32.1 (bishl 1 r40), bior z32.2.1 0, z32.2.2 + 1))))) else some (.inr (z32.1, z32.2.1))))
def p_X1_addClass (n : Nat) (sC : ClsS) (sK : SwpS) (sT : TxtS) (v2 : Int) (v3 : Int) (v4 : Int) : Option (ClsS) :=
  ck sC.size (if sC.size < 120 then ck v4 (if v4 < 1 then some sC else if 60 < v4 then some sC else (lp (p_X1_addClass_b32 n sK sT v4) n (0, 0, 0)).bind fun ex32 => ix sC.size 120 (ix v4 61 (ck v3 (if 1 < v3 then (p_X1_classAt (sC.endCounts, sC.classOf, up sC.firstEnds sC.size v2, up sC.longest sC.size v4, up sC.shortest sC.size v3, up sC.ends sC.size (sC.endCounts v4), sC.links, sC.wordSets, sC.stepSets, sC.letterSet, sC.size, sC.version) v2 (v3 - 1)).bind fun r92 => p_X1_addClass_j176 n (sC.endCounts, sC.classOf, up sC.firstEnds sC.size v2, up sC.longest sC.size v4, up sC.shortest sC.size v3, up sC.ends sC.size (sC.endCounts v4), sC.links, sC.wordSets, sC.stepSets, sC.letterSet, sC.size, sC.version) ex32.1 ex32.2 sC.size r92 else p_X1_addClass_j176 n (sC.endCounts, sC.classOf, up sC.firstEnds sC.size v2, up sC.longest sC.size v4, up sC.shortest sC.size v3, up sC.ends sC.size (sC.endCounts v4), sC.links, sC.wordSets, sC.stepSets, sC.letterSet, sC.size, sC.version) ex32.1 ex32.2 sC.size (-6))))) else some sC)
def p_X1_addFactorsAt_j88 (n : Nat) (sK : SwpS) (sT : TxtS) (v2 : Int) (sC_88 : ClsS) (v5_88 : Int) (v6_88 : Int) : Option ((Int × Int × ClsS) ⊕ (ClsS)) :=
  (p_X1_addClass n sC_88 sK sT v2 v5_88 v6_88).bind fun r4 => some (.inl (v6_88 + 1, v6_88 + 1, r4))
def p_X1_addFactorsAt_j62 (n : Nat) (sK : SwpS) (sT : TxtS) (v2 : Int) (sC_62 : ClsS) (v5_62 : Int) (v6_62 : Int) (t0_62 : Int) : Option ((Int × Int × ClsS) ⊕ (ClsS)) :=
  ck t0_62 (if t0_62 = 0 then ix (v6_62 + 1) 61 (ix v6_62 61 (ck (sC_62.endCounts (v6_62 + 1)) (ck (sC_62.endCounts v6_62) (if sC_62.endCounts (v6_62 + 1) = sC_62.endCounts v6_62 then some (.inl (v5_62, v6_62 + 1, sC_62)) else p_X1_addFactorsAt_j88 n sK sT v2 sC_62 v5_62 v6_62)))) else p_X1_addFactorsAt_j88 n sK sT v2 sC_62 v5_62 v6_62)
def p_X1_addFactorsAt_j57 (n : Nat) (sK : SwpS) (sT : TxtS) (v2 : Int) (sC_57 : ClsS) (v5_57 : Int) (v6_57 : Int) : Option ((Int × Int × ClsS) ⊕ (ClsS)) :=
  p_X1_addFactorsAt_j62 n sK sT v2 sC_57 v5_57 v6_57 1
def p_X1_addFactorsAt_b10 (n : Nat) (sK : SwpS) (sT : TxtS) (v2 : Int) (v4 : Int) (z10 : Int × Int × ClsS) : Option ((Int × Int × ClsS) ⊕ (ClsS)) :=
  ck z10.2.1 (ck v4 (if v4 < z10.2.1 then some (.inr z10.2.2) else if z10.2.1 < 61 then (p_X1_putClass z10.2.2 v2 z10.2.1 z10.2.2.size).bind fun r36 => if z10.2.1 = v4 then p_X1_addFactorsAt_j57 n sK sT v2 r36 z10.1 z10.2.1 else ck (z10.2.1 + 1) (if z10.2.1 + 1 = 61 then p_X1_addFactorsAt_j57 n sK sT v2 r36 z10.1 z10.2.1 else p_X1_addFactorsAt_j62 n sK sT v2 r36 z10.1 z10.2.1 0) else some (.inr z10.2.2)))
def p_X1_addFactorsAt (n : Nat) (sC : ClsS) (sK : SwpS) (sT : TxtS) (v2 : Int) (v3 : Int) (v4 : Int) : Option (ClsS) :=
  ck v3 ((lp (p_X1_addFactorsAt_b10 n sK sT v2 v4) n (v3, max 0 v3, sC)).bind fun ex10 => some ex10)
def p_X1_refresh_b32 (n : Nat) (sT : TxtS) (z32 : Int × ClsS × SwpS) : Option ((Int × ClsS × SwpS) ⊕ (ClsS × SwpS)) :=
  (p_X5_length sT).bind fun r12 => ck z32.1 (ck r12 (if z32.1 < r12 then (p_X5_letterAt sT z32.1).bind fun r22 => (p_X5_length sT).bind fun r24 => (p_X4_advancea n z32.2.2 sT z32.1 r24).bind fun r26 => (p_X5_placeAt sT z32.1).bind fun r28 => ck (r28 + 1) ((p_X5_length sT).bind fun r32 => (p_X1_countEnds n (z32.2.1.endCounts, z32.2.1.classOf, z32.2.1.firstEnds, z32.2.1.longest, z32.2.1.shortest, z32.2.1.ends, z32.2.1.links, z32.2.1.wordSets, z32.2.1.stepSets, bior z32.2.1.letterSet (bishl 1 r22), z32.2.1.size, z32.2.1.version) r26.2 r32 (min (r28 + 1) 60)).bind fun r34 => (p_X1_takeKnown n r34 r26.2 z32.1).bind fun r36 => (p_X1_addFactorsAt n r36.2 r26.2 sT z32.1 (r36.1 + 1) (min (r28 + 1) 60)).bind fun r38 => some (.inl (z32.1 + 1, r38, r26.2))) else some (.inr (z32.2.1, z32.2.2))))
def p_X1_refresh (n : Nat) (sC : ClsS) (sK : SwpS) (sT : TxtS) : Option (ClsS × SwpS) :=
  (p_X5_versionTaken sT).bind fun r1 => ck sC.version (ck r1 (if sC.version = r1 then some (sC, sK) else (p_X5_versionTaken sT).bind fun r10 => (lp (p_X1_refresh_b32 n sT) n (0, (sC.endCounts, sC.classOf, sC.firstEnds, sC.longest, sC.shortest, sC.ends, sC.links, sC.wordSets, sC.stepSets, 0, 0, r10), sK)).bind fun ex32 => some (ex32.1, ex32.2)))
def p_X6_classOfPattern (n : Nat) (sT : TxtS) (sC : ClsS) (sK : SwpS) (sQ : TxtS) : Option (Int × ClsS × SwpS) :=
  (p_X5_endNumber n sT sQ 0).bind fun r1 => ck r1 (if r1 = (-6) then some ((-6), sC, sK) else (p_X1_refresh n sC sK sT).bind fun r8 => (p_X5_length sQ).bind fun r10 => (p_X1_classAt r8.1 r1 r10).bind fun r12 => some (r12, r8.1, r8.2))
def p_X5_wordsWith_b4 (n : Nat) (sT : TxtS) (sU : TxtS) (z4 : Int × Int) : Option ((Int × Int) ⊕ (Int)) :=
  ck z4.2 (ck sT.length (if z4.2 < sT.length then (p_X5_hasEnd n sT sU z4.2).bind fun r9 => ck r9 (if r9 = 0 then some (.inl (z4.1, z4.2 + 1)) else ix z4.2 60 (some (.inl (bior z4.1 (bishl 1 (sT.words z4.2)), z4.2 + 1)))) else some (.inr z4.1)))
def p_X5_wordsWith (n : Nat) (sT : TxtS) (sU : TxtS) : Option (Int) :=
  (lp (p_X5_wordsWith_b4 n sT sU) n (0, 0)).bind fun ex4 => some ex4
def p_X5_endsOf_b4 (n : Nat) (sT : TxtS) (sU : TxtS) (z4 : Int × Int) : Option ((Int × Int) ⊕ (Int)) :=
  ck z4.2 (ck sT.length (if z4.2 < sT.length then (p_X5_hasEnd n sT sU z4.2).bind fun r9 => ck r9 (if r9 = 0 then some (.inl (z4.1, z4.2 + 1)) else some (.inl (z4.1 + 1, z4.2 + 1))) else some (.inr z4.1)))
def p_X5_endsOf (n : Nat) (sT : TxtS) (sU : TxtS) : Option (Int) :=
  (lp (p_X5_endsOf_b4 n sT sU) n (0, 0)).bind fun ex4 => some ex4
def p_X5_mostApart_b7 (n : Nat) (sT : TxtS) (sU : TxtS) (z7 : Int × Int × Int) : Option ((Int × Int × Int) ⊕ (Int)) :=
  ck z7.2.2 (ck sT.length (if z7.2.2 < sT.length then (p_X5_length sU).bind fun r9 => ck ((z7.2.2 - r9) + 1) (ck z7.2.1 (if (z7.2.2 - r9) + 1 < z7.2.1 then some (.inl (z7.1, z7.2.1, z7.2.2 + 1)) else (p_X5_hasEnd n sT sU z7.2.2).bind fun r18 => ck r18 (if r18 = 0 then some (.inl (z7.1, z7.2.1, z7.2.2 + 1)) else some (.inl (z7.1 + 1, z7.2.2 + 1, z7.2.2 + 1))))) else some (.inr z7.1)))
def p_X5_mostApart (n : Nat) (sT : TxtS) (sU : TxtS) : Option (Int) :=
  (lp (p_X5_mostApart_b7 n sT sU) n (0, 0, 0)).bind fun ex7 => some ex7
def p_X6_occurs (n : Nat) (sF : Int) (sH : HisS) (sP : PadS) (sT : TxtS) (sC : ClsS) (sK : SwpS) (sQ : TxtS) (v1 : Int) : Option (Int × TxtS × ClsS × SwpS × TxtS) :=
  ck v1 (if v1 < 0 then some ((-2), sT, sC, sK, sQ) else if 3 < v1 then some ((-2), sT, sC, sK, sQ) else (p_X6_readPattern n sP sQ).bind fun r10 => ck r10.1 (if r10.1 = 0 then some ((-3), sT, sC, sK, r10.2) else (p_X6_showPresent n sF sH sT).bind fun r17 => if v1 = 0 then (p_X5_endsOf n r17 r10.2).bind fun r22 => some (r22, r17, sC, sK, r10.2) else if v1 = 1 then (p_X5_wordsWith n r17 r10.2).bind fun r28 => some (r28, r17, sC, sK, r10.2) else if v1 = 2 then (p_X6_classOfPattern n r17 sC sK r10.2).bind fun r34 => some (r34.1, r17, r34.2.1, r34.2.2, r10.2) else (p_X5_mostApart n r17 r10.2).bind fun r37 => some (r37, r17, sC, sK, r10.2)))
def p_X5_placeCode (sT : TxtS) (v1 : Int) : Option (Int) :=
  (p_X5_wordAt sT v1).bind fun r1 => (p_X5_placeAt sT v1).bind fun r3 => some ((100 * r1) + r3)
def p_X6_end (n : Nat) (sF : Int) (sH : HisS) (sP : PadS) (sT : TxtS) (sQ : TxtS) (v1 : Int) : Option (Int × TxtS × TxtS) :=
  (p_X6_readPattern n sP sQ).bind fun r1 => ck r1.1 (if r1.1 = 0 then some ((-3), sT, r1.2) else (p_X6_showPresent n sF sH sT).bind fun r8 => (p_X5_endNumber n r8 r1.2 v1).bind fun r10 => ck r10 (if r10 = (-6) then some ((-6), r8, r1.2) else (p_X5_placeCode r8 r10).bind fun r17 => some (r17, r8, r1.2)))
def p_X6_matches_b37 (n : Nat) (sT : TxtS) (sQ : TxtS) (v1 : Int) (z37 : Int × Int × SwpS) : Option ((Int × Int × SwpS) ⊕ (Int × SwpS)) :=
  ck z37.2.1 (ck v1 (if z37.2.1 < v1 then (p_X5_length sT).bind fun r31 => (p_X4_advancen n z37.2.2 sQ sT z37.2.1 r31).bind fun r33 => some (.inl (r33.1, z37.2.1 + 1, r33.2)) else some (.inr (z37.1, z37.2.2))))
def p_X6_matches (n : Nat) (sF : Int) (sH : HisS) (sP : PadS) (sT : TxtS) (sQ : TxtS) (sS : SwpS) (v1 : Int) : Option (Int × TxtS × TxtS × SwpS) :=
  (p_X6_readPattern n sP sQ).bind fun r1 => ck r1.1 (if r1.1 = 0 then some ((-3), sT, r1.2, sS) else ck v1 (if v1 < 1 then some ((-2), sT, r1.2, sS) else (p_X5_length r1.2).bind fun r14 => ck r14 (if r14 < v1 then some ((-2), sT, r1.2, sS) else (p_X6_showPresent n sF sH sT).bind fun r21 => (lp (p_X6_matches_b37 n r21 r1.2 v1) n (0, 0, sS)).bind fun ex37 => some (ex37.1, r21, r1.2, ex37.2))))
def p_X6_parts_b20 (n : Nat) (sT : TxtS) (sQ : TxtS) (z20 : Int × Int × Int × SwpS) : Option ((Int × Int × Int × SwpS) ⊕ ((Int × TxtS × TxtS × SwpS) ⊕ (Int × SwpS))) :=
  (p_X5_length sQ).bind fun r10 => ck z20.2.2.1 (ck r10 (if z20.2.2.1 < r10 then (p_X5_length sT).bind fun r19 => (p_X4_advancen n z20.2.2.2 sQ sT z20.2.2.1 r19).bind fun r21 => ck r21.1 (if r21.1 = 0 then some (.inr (.inl ((-6), sT, sQ, r21.2))) else ck ((z20.2.2.1 - z20.2.1) + 1) (if r21.1 < (z20.2.2.1 - z20.2.1) + 1 then some (.inl (z20.1 + 1, z20.2.2.1, z20.2.2.1 + 1, r21.2)) else some (.inl (z20.1, z20.2.1, z20.2.2.1 + 1, r21.2)))) else some (.inr (.inr (z20.1, z20.2.2.2)))))
def p_X6_parts (n : Nat) (sF : Int) (sH : HisS) (sP : PadS) (sT : TxtS) (sQ : TxtS) (sS : SwpS) : Option (Int × TxtS × TxtS × SwpS) :=
  (p_X6_readPattern n sP sQ).bind fun r1 => ck r1.1 (if r1.1 = 0 then some ((-3), sT, r1.2, sS) else (p_X6_showPresent n sF sH sT).bind fun r8 => (lp (p_X6_parts_b20 n r8 r1.2) n (1, 0, 0, sS)).bind fun ex20 => Sum.elim (fun q20 => some q20) (fun e20 => some (e20.1, r8, r1.2, e20.2)) ex20)
def p_X6_isEndCount (v0 : Int) : Option (Int) :=
  ck v0 (if v0 < 1 then some 0 else if 60 < v0 then some 0 else some 1)
def p_X6_showClasses (n : Nat) (sF : Int) (sH : HisS) (sT : TxtS) (sC : ClsS) (sK : SwpS) : Option (TxtS × ClsS × SwpS) :=
  (p_X6_showPresent n sF sH sT).bind fun r1 => (p_X1_refresh n sC sK r1).bind fun r3 => some (r1, r3.1, r3.2)
def p_X1_factorsWith_b5 (n : Nat) (sC : ClsS) (v1 : Int) (v2 : Int) (z5 : Int × Int) : Option ((Int × Int) ⊕ (Int)) :=
  ck z5.2 (ck sC.size (if z5.2 < sC.size then ix z5.2 120 (ck (sC.ends z5.2) (ck v1 (if sC.ends z5.2 < v1 then some (.inl (z5.1, z5.2 + 1)) else ck v2 (if v2 = 0 then some (.inl (z5.1 + (((sC.longest z5.2) - (sC.shortest z5.2)) + 1), z5.2 + 1)) else ck (sC.shortest z5.2) (if v2 < sC.shortest z5.2 then some (.inl (z5.1, z5.2 + 1)) else ck (sC.longest z5.2) (if sC.longest z5.2 < v2 then some (.inl (z5.1, z5.2 + 1)) else some (.inl (z5.1 + 1, z5.2 + 1)))))))) else some (.inr z5.1)))
def p_X1_factorsWith (n : Nat) (sC : ClsS) (v1 : Int) (v2 : Int) : Option (Int) :=
  (lp (p_X1_factorsWith_b5 n sC v1 v2) n (0, 0)).bind fun ex5 => some ex5
def p_X6_factors (n : Nat) (sF : Int) (sH : HisS) (sT : TxtS) (sC : ClsS) (sK : SwpS) (v1 : Int) (v2 : Int) : Option (Int × TxtS × ClsS × SwpS) :=
  (p_X6_isEndCount v1).bind fun r1 => ck r1 (if r1 = 0 then some ((-2), sT, sC, sK) else ck v2 (if v2 < 0 then some ((-2), sT, sC, sK) else if 60 < v2 then some ((-2), sT, sC, sK) else (p_X6_showClasses n sF sH sT sC sK).bind fun r18 => (p_X1_factorsWith n r18.2.1 v1 v2).bind fun r20 => some (r20, r18.1, r18.2.1, r18.2.2)))
def p_X5_sharedFroma_b18 (n : Nat) (sT : TxtS) (v1 : Int) (v3 : Int) (v4 : Int) (z18 : Int) : Option ((Int) ⊕ ((Int) ⊕ (Unit))) :=
  ck z18 (ck v4 (if z18 < v4 then (p_X5_letterAt sT (v1 + z18)).bind fun r16 => (p_X5_letterAt sT (v3 + z18)).bind fun r18 => ck r16 (ck r18 (if r16 = r18 then some (.inl (z18 + 1)) else some (.inr (.inl z18)))) else some (.inr (.inr ()))))
def p_X5_sharedFroma (n : Nat) (sT : TxtS) (v1 : Int) (v3 : Int) : Option (Int) :=
  (p_X5_lettersFrom sT v1).bind fun r1 => (p_X5_lettersFrom sT v3).bind fun r3 => ck r1 (ck r3 ((lp (p_X5_sharedFroma_b18 n sT v1 v3 (min r1 r3)) n 0).bind fun ex18 => Sum.elim (fun q18 => some q18) (fun e18 => some (min r1 r3)) ex18))
def p_X5_comesBefore_j26 (n : Nat) (sT : TxtS) (v1_26 : Int) (v2_26 : Int) : Option (Int) :=
  (p_X5_lettersFrom sT v1_26).bind fun r1 => (p_X5_lettersFrom sT v2_26).bind fun r3 => ck r1 (ck r3 (if r1 < r3 then some 1 else some 0))
def p_X5_comesBefore (n : Nat) (sT : TxtS) (v1 : Int) (v2 : Int) : Option (Int) :=
  (p_X5_sharedFroma n sT v1 v2).bind fun r14 => (p_X5_lettersFrom sT v1).bind fun r16 => ck r14 (ck r16 (if r14 = r16 then p_X5_comesBefore_j26 n sT v1 v2 else (p_X5_lettersFrom sT v2).bind fun r25 => ck r25 (if r14 = r25 then p_X5_comesBefore_j26 n sT v1 v2 else (p_X5_letterAt sT (v1 + r14)).bind fun r32 => (p_X5_letterAt sT (v2 + r14)).bind fun r34 => ck r32 (ck r34 (if r32 < r34 then some 1 else some 0)))))
def p_X0_insert_b15 (n : Nat) (sT : TxtS) (v2 : Int) (z15 : Int × Row) : Option ((Int × Row) ⊕ (Int × Row)) :=
  ck z15.1 (if 0 < z15.1 then ix (z15.1 - 1) 60 ((p_X5_comesBefore n sT v2 (z15.2 (z15.1 - 1))).bind fun r14 => ck r14 (if r14 = 0 then some (.inr (z15.1, z15.2)) else ix z15.1 60 (some (.inl (z15.1 + (-1), up z15.2 z15.1 (z15.2 (z15.1 - 1))))))) else some (.inr (z15.1, z15.2)))
def p_X0_insert (n : Nat) (sB : BegS) (sT : TxtS) (v2 : Int) : Option (BegS) :=
  ck sB.size (if sB.size < 60 then (lp (p_X0_insert_b15 n sT v2) n (sB.size, sB.starts)).bind fun ex15 => ix ex15.1 60 (some (up ex15.2 ex15.1 v2, sB.shared, sB.size + 1, sB.version)) else some sB)
def p_X0_refresh_b32 (n : Nat) (sT : TxtS) (z32 : Int × BegS) : Option ((Int × BegS) ⊕ (BegS)) :=
  ck z32.1 (if z32.1 < 0 then some (.inr z32.2) else (p_X0_insert n z32.2 sT z32.1).bind fun r20 => some (.inl (z32.1 + (-1), r20)))
def p_X0_refresh_b50 (n : Nat) (sB : BegS) (sT : TxtS) (z50 : Int × Row) : Option ((Int × Row) ⊕ (Row)) :=
  ck z50.1 (ck sB.size (if z50.1 < sB.size then if z50.1 = 0 then ix z50.1 60 (some (.inl (z50.1 + 1, up z50.2 z50.1 0))) else ix (z50.1 - 1) 60 (ix z50.1 60 ((p_X5_sharedFroma n sT (sB.starts (z50.1 - 1)) (sB.starts z50.1)).bind fun r47 => some (.inl (z50.1 + 1, up z50.2 z50.1 r47)))) else some (.inr z50.2)))
def p_X0_refresh (n : Nat) (sB : BegS) (sT : TxtS) : Option (BegS) :=
  (p_X5_versionTaken sT).bind fun r1 => ck sB.version (ck r1 (if sB.version = r1 then some sB else (p_X5_versionTaken sT).bind fun r10 => (p_X5_length sT).bind fun r12 => (lp (p_X0_refresh_b32 n sT) n (r12 - 1, (sB.starts, sB.shared, 0, r10))).bind fun ex32 => (lp (p_X0_refresh_b50 n ex32 sT) n (0, ex32.shared)).bind fun ex50 => some (ex32.starts, ex50, ex32.size, ex32.version)))
def p_X0_startAt (sB : BegS) (v1 : Int) : Option (Int) :=
  ck v1 (if v1 < 0 then some 0 else ck sB.size (if v1 < sB.size then ix v1 60 (some (sB.starts v1)) else some 0))
def p_X0_sharedAt (sB : BegS) (v1 : Int) : Option (Int) :=
  ck v1 (if v1 < 0 then some 0 else ck sB.size (if v1 < sB.size then ix v1 60 (some (sB.shared v1)) else some 0))
def p_X1_has (sC : ClsS) (v1 : Int) : Option (Int) :=
  ck v1 (if v1 < 0 then some 0 else ck sC.size (if v1 < sC.size then some 1 else some 0))
def p_X1_endsIn (sC : ClsS) (v1 : Int) : Option (Int) :=
  (p_X1_has sC v1).bind fun r1 => ck r1 (if r1 = 0 then some 0 else ix v1 120 (some (sC.ends v1)))
def p_X1_lengthWith_b17 (n : Nat) (sC : ClsS) (v2 : Int) (v3 : Int) (v6 : Int) (z17 : Int × Int) : Option ((Int × Int) ⊕ ((Int) ⊕ (Int))) :=
  ck z17.2 (ck v6 (if v6 < z17.2 then some (.inr (.inr z17.1)) else (p_X1_classAt sC ((v3 + z17.2) - 1) z17.2).bind fun r10 => (p_X1_endsIn sC r10).bind fun r12 => ck r12 (ck v2 (if r12 < v2 then some (.inr (.inr z17.1)) else some (.inl (z17.2, z17.2 + 1))))))
def p_X1_lengthWith (n : Nat) (sC : ClsS) (sT : TxtS) (v2 : Int) (v3 : Int) (v4 : Int) : Option (Int) :=
  (p_X5_lettersFrom sT v3).bind fun r1 => (lp (p_X1_lengthWith_b17 n sC v2 v3 r1) n (v4 - 1, v4)).bind fun ex17 => Sum.elim (fun q17 => some q17) (fun e17 => some e17) ex17
def p_X3_write_b7 (n : Nat) (sT : TxtS) (v2 : Int) (v3 : Int) (z7 : Int × PadS) : Option ((Int × PadS) ⊕ (PadS)) :=
  ck z7.1 (ck v3 (if z7.1 < v3 then (p_X5_letterAt sT (v2 + z7.1)).bind fun r11 => (p_X3_add z7.2 (97 + r11)).bind fun r13 => some (.inl (z7.1 + 1, r13)) else some (.inr z7.2)))
def p_X3_write (n : Nat) (sP : PadS) (sT : TxtS) (v2 : Int) (v3 : Int) : Option (PadS) :=
  (p_X3_clear sP).bind fun r1 => (lp (p_X3_write_b7 n sT v2 v3) n (0, r1)).bind fun ex7 => some ex7
def p_X6_write (n : Nat) (sP : PadS) (sT : TxtS) (v1 : Int) (v2 : Int) : Option (Int × PadS) :=
  (p_X3_write n sP sT v1 v2).bind fun r1 => some (v2, r1)
def p_X6_kth_b30 (n : Nat) (sT : TxtS) (sC : ClsS) (sK : SwpS) (sB : BegS) (v1 : Int) (z30 : Int × Int × PadS) : Option ((Int × Int × PadS) ⊕ ((Int × PadS × TxtS × ClsS × SwpS × BegS) ⊕ (PadS))) :=
  (p_X5_length sT).bind fun r12 => ck z30.2.1 (ck r12 (if z30.2.1 < r12 then ck z30.1 (if z30.1 < 0 then some (.inr (.inr z30.2.2)) else (p_X0_startAt sB z30.2.1).bind fun r26 => (p_X0_sharedAt sB z30.2.1).bind fun r28 => (p_X1_lengthWith n sC sT v1 r26 (r28 + 1)).bind fun r30 => ck ((r30 - (r28 + 1)) + 1) (if z30.1 < (r30 - (r28 + 1)) + 1 then (p_X6_write n z30.2.2 sT r26 ((r28 + 1) + z30.1)).bind fun r37 => some (.inr (.inl (r37.1, r37.2, sT, sC, sK, sB))) else some (.inl (z30.1 - ((r30 - (r28 + 1)) + 1), z30.2.1 + 1, z30.2.2)))) else some (.inr (.inr z30.2.2))))
def p_X6_kth (n : Nat) (sF : Int) (sH : HisS) (sP : PadS) (sT : TxtS) (sC : ClsS) (sK : SwpS) (sB : BegS) (v1 : Int) (v2 : Int) : Option (Int × PadS × TxtS × ClsS × SwpS × BegS) :=
  (p_X6_isEndCount v1).bind fun r1 => ck r1 (if r1 = 0 then some ((-2), sP, sT, sC, sK, sB) else (p_X6_showClasses n sF sH sT sC sK).bind fun r8 => (p_X0_refresh n sB r8.1).bind fun r10 => (lp (p_X6_kth_b30 n r8.1 r8.2.1 r8.2.2 r10 v1) n (v2, 0, sP)).bind fun ex30 => Sum.elim (fun q30 => some q30) (fun e30 => some ((-6), e30, r8.1, r8.2.1, r8.2.2, r10)) ex30)
def p_X5_sharedFromn_b18 (n : Nat) (sT : TxtS) (sU : TxtS) (v1 : Int) (v3 : Int) (v4 : Int) (z18 : Int) : Option ((Int) ⊕ ((Int) ⊕ (Unit))) :=
  ck z18 (ck v4 (if z18 < v4 then (p_X5_letterAt sT (v1 + z18)).bind fun r16 => (p_X5_letterAt sU (v3 + z18)).bind fun r18 => ck r16 (ck r18 (if r16 = r18 then some (.inl (z18 + 1)) else some (.inr (.inl z18)))) else some (.inr (.inr ()))))
def p_X5_sharedFromn (n : Nat) (sT : TxtS) (sU : TxtS) (v1 : Int) (v3 : Int) : Option (Int) :=
  (p_X5_lettersFrom sT v1).bind fun r1 => (p_X5_lettersFrom sU v3).bind fun r3 => ck r1 (ck r3 ((lp (p_X5_sharedFromn_b18 n sT sU v1 v3 (min r1 r3)) n 0).bind fun ex18 => Sum.elim (fun q18 => some q18) (fun e18 => some (min r1 r3)) ex18))
def p_X0_lengthBefore_j55 (n : Nat) (sT : TxtS) (v2_55 : Int) (v4_55 : Int) (t0_55 : Int) : Option (Int) :=
  ck t0_55 (if t0_55 = 0 then (p_X5_lettersFrom sT v2_55).bind fun r6 => some r6 else some v4_55)
def p_X0_lengthBefore_j54 (n : Nat) (sT : TxtS) (v2_54 : Int) (v4_54 : Int) : Option (Int) :=
  p_X0_lengthBefore_j55 n sT v2_54 v4_54 0
def p_X0_lengthBefore (n : Nat) (sT : TxtS) (sU : TxtS) (v2 : Int) : Option (Int) :=
  (p_X5_sharedFromn n sT sU v2 0).bind fun r10 => (p_X5_length sU).bind fun r12 => ck r10 (ck r12 (if r10 = r12 then some (r10 - 1) else (p_X5_lettersFrom sT v2).bind fun r21 => ck r21 (if r10 < r21 then (p_X5_letterAt sT (v2 + r10)).bind fun r28 => (p_X5_letterAt sU r10).bind fun r30 => ck r28 (ck r30 (if r30 < r28 then p_X0_lengthBefore_j55 n sT v2 r10 1 else p_X0_lengthBefore_j54 n sT v2 r10)) else p_X0_lengthBefore_j54 n sT v2 r10)))
def p_X0_factorsBefore_b5 (n : Nat) (sB : BegS) (sT : TxtS) (sU : TxtS) (z5 : Int × Int) : Option ((Int × Int) ⊕ (Int)) :=
  ck z5.2 (ck sB.size (if z5.2 < sB.size then ix z5.2 60 ((p_X0_lengthBefore n sT sU (sB.starts z5.2)).bind fun r11 => ck (r11 - (sB.shared z5.2)) (some (.inl (z5.1 + (max 0 (r11 - (sB.shared z5.2))), z5.2 + 1)))) else some (.inr z5.1)))
def p_X0_factorsBefore (n : Nat) (sB : BegS) (sT : TxtS) (sU : TxtS) : Option (Int) :=
  (lp (p_X0_factorsBefore_b5 n sB sT sU) n (0, 0)).bind fun ex5 => some ex5
def p_X6_before (n : Nat) (sF : Int) (sH : HisS) (sP : PadS) (sT : TxtS) (sB : BegS) (sQ : TxtS) : Option (Int × TxtS × BegS × TxtS) :=
  (p_X6_readPattern n sP sQ).bind fun r1 => ck r1.1 (if r1.1 = 0 then some ((-3), sT, sB, r1.2) else (p_X6_showPresent n sF sH sT).bind fun r8 => (p_X0_refresh n sB r8).bind fun r10 => (p_X0_factorsBefore n r10 r8 r1.2).bind fun r12 => some (r12, r8, r10, r1.2))
def p_X1_firstEndOf (sC : ClsS) (v1 : Int) : Option (Int) :=
  (p_X1_has sC v1).bind fun r1 => ck r1 (if r1 = 0 then some 0 else ix v1 120 (some (sC.firstEnds v1)))
def p_X1_wordsOf (sC : ClsS) (v1 : Int) : Option (Int) :=
  (p_X1_has sC v1).bind fun r1 => ck r1 (if r1 = 0 then some 0 else ix v1 120 (some (sC.wordSets v1)))
def p_X1_stepsOf (sC : ClsS) (v1 : Int) : Option (Int) :=
  (p_X1_has sC v1).bind fun r1 => ck r1 (if r1 = 0 then some sC.letterSet else ix v1 120 (some (sC.stepSets v1)))
def p_X1_linkOf (sC : ClsS) (v1 : Int) : Option (Int) :=
  (p_X1_has sC v1).bind fun r1 => ck r1 (if r1 = 0 then some (-6) else ix v1 120 (some (sC.links v1)))
def p_X1_shortestIn (sC : ClsS) (v1 : Int) : Option (Int) :=
  (p_X1_has sC v1).bind fun r1 => ck r1 (if r1 = 0 then some 0 else ix v1 120 (some (sC.shortest v1)))
def p_X1_longestIn (sC : ClsS) (v1 : Int) : Option (Int) :=
  (p_X1_has sC v1).bind fun r1 => ck r1 (if r1 = 0 then some 0 else ix v1 120 (some (sC.longest v1)))
def p_X6_group (n : Nat) (sF : Int) (sH : HisS) (sT : TxtS) (sC : ClsS) (sK : SwpS) (v1 : Int) (v2 : Int) : Option (Int × TxtS × ClsS × SwpS) :=
  (p_X6_showClasses n sF sH sT sC sK).bind fun r1 => (p_X1_has r1.2.1 v1).bind fun r3 => ck r3 (if r3 = 0 then some ((-1), r1.1, r1.2.1, r1.2.2) else ck v2 (if v2 = 0 then (p_X1_longestIn r1.2.1 v1).bind fun r15 => some (r15, r1.1, r1.2.1, r1.2.2) else if v2 = 1 then (p_X1_shortestIn r1.2.1 v1).bind fun r21 => some (r21, r1.1, r1.2.1, r1.2.2) else if v2 = 2 then (p_X1_endsIn r1.2.1 v1).bind fun r27 => some (r27, r1.1, r1.2.1, r1.2.2) else if v2 = 3 then (p_X1_linkOf r1.2.1 v1).bind fun r33 => some (r33, r1.1, r1.2.1, r1.2.2) else if v2 = 4 then (p_X1_stepsOf r1.2.1 v1).bind fun r39 => some (r39, r1.1, r1.2.1, r1.2.2) else if v2 = 5 then (p_X1_wordsOf r1.2.1 v1).bind fun r45 => some (r45, r1.1, r1.2.1, r1.2.2) else if v2 = 6 then (p_X1_firstEndOf r1.2.1 v1).bind fun r51 => (p_X5_placeCode r1.1 r51).bind fun r53 => some (r53, r1.1, r1.2.1, r1.2.2) else some ((-2), r1.1, r1.2.1, r1.2.2)))
def p_X1_longestStart (sC : ClsS) (v1 : Int) : Option (Int) :=
  (p_X1_firstEndOf sC v1).bind fun r1 => (p_X1_longestIn sC v1).bind fun r3 => some ((r1 - r3) + 1)
def p_X6_spell (n : Nat) (sF : Int) (sH : HisS) (sP : PadS) (sT : TxtS) (sC : ClsS) (sK : SwpS) (v1 : Int) : Option (Int × PadS × TxtS × ClsS × SwpS) :=
  (p_X6_showClasses n sF sH sT sC sK).bind fun r1 => (p_X1_has r1.2.1 v1).bind fun r3 => ck r3 (if r3 = 0 then some ((-1), sP, r1.1, r1.2.1, r1.2.2) else (p_X1_longestStart r1.2.1 v1).bind fun r10 => (p_X1_longestIn r1.2.1 v1).bind fun r12 => (p_X6_write n sP r1.1 r10 r12).bind fun r14 => some (r14.1, r14.2, r1.1, r1.2.1, r1.2.2))
def p_X5_sameBefore_b3 (n : Nat) (sT : TxtS) (v1 : Int) (v2 : Int) (v3 : Int) (z3 : Int) : Option ((Int) ⊕ ((Int) ⊕ (Unit))) :=
  ck z3 (ck v3 (if v3 < z3 then some (.inr (.inr ())) else (p_X5_letterAt sT (v1 - z3)).bind fun r8 => (p_X5_letterAt sT (v2 - z3)).bind fun r10 => ck r8 (ck r10 (if r8 = r10 then some (.inl (z3 + 1)) else some (.inr (.inl 0))))))
def p_X5_sameBefore (n : Nat) (sT : TxtS) (v1 : Int) (v2 : Int) (v3 : Int) : Option (Int) :=
  (lp (p_X5_sameBefore_b3 n sT v1 v2 v3) n 1).bind fun ex3 => Sum.elim (fun q3 => some q3) (fun e3 => some 1) ex3
def p_X1_classAfter_j54 (n : Nat) (sC : ClsS) (sT : TxtS) (v4 : Int) (v5 : Int) (v6_54 : Int) (t0_54 : Int) : Option ((Int) ⊕ ((Int) ⊕ (Unit))) :=
  ck t0_54 (if t0_54 = 0 then some (.inl (v6_54 + 1)) else (p_X5_sameBefore n sT v6_54 v5 v4).bind fun r11 => ck r11 (if r11 = 0 then some (.inl (v6_54 + 1)) else (p_X1_classAt sC v6_54 (v4 + 1)).bind fun r18 => some (.inr (.inl r18))))
def p_X1_classAfter_j53 (n : Nat) (sC : ClsS) (sT : TxtS) (v4 : Int) (v5 : Int) (v6_53 : Int) : Option ((Int) ⊕ ((Int) ⊕ (Unit))) :=
  p_X1_classAfter_j54 n sC sT v4 v5 v6_53 0
def p_X1_classAfter_b19 (n : Nat) (sC : ClsS) (sT : TxtS) (v3 : Int) (v4 : Int) (v5 : Int) (z19 : Int) : Option ((Int) ⊕ ((Int) ⊕ (Unit))) :=
  (p_X5_length sT).bind fun r24 => ck z19 (ck r24 (if z19 < r24 then (p_X5_letterAt sT z19).bind fun r33 => ck r33 (ck v3 (if r33 = v3 then (p_X5_placeAt sT z19).bind fun r42 => ck r42 (ck v4 (if r42 < v4 then p_X1_classAfter_j53 n sC sT v4 v5 z19 else p_X1_classAfter_j54 n sC sT v4 v5 z19 1)) else p_X1_classAfter_j53 n sC sT v4 v5 z19)) else some (.inr (.inr ()))))
def p_X1_classAfter (n : Nat) (sC : ClsS) (sT : TxtS) (v2 : Int) (v3 : Int) : Option (Int) :=
  (p_X1_longestIn sC v2).bind fun r1 => (p_X1_firstEndOf sC v2).bind fun r3 => (lp (p_X1_classAfter_b19 n sC sT v3 r1 (r3 + 1)) n 0).bind fun ex19 => Sum.elim (fun q19 => some q19) (fun e19 => some (-6)) ex19
def p_X6_step_j22 (n : Nat) (sT_22 : TxtS) (sC_22 : ClsS) (sK_22 : SwpS) (v1_22 : Int) (v2_22 : Int) : Option (Int × TxtS × ClsS × SwpS) :=
  (p_X6_isLetter v2_22).bind fun r1 => ck r1 (if r1 = 0 then some ((-2), sT_22, sC_22, sK_22) else (p_X1_classAfter n sC_22 sT_22 v1_22 v2_22).bind fun r8 => some (r8, sT_22, sC_22, sK_22))
def p_X6_step (n : Nat) (sF : Int) (sH : HisS) (sT : TxtS) (sC : ClsS) (sK : SwpS) (v1 : Int) (v2 : Int) : Option (Int × TxtS × ClsS × SwpS) :=
  (p_X6_showClasses n sF sH sT sC sK).bind fun r12 => ck v1 (if v1 = (-1) then p_X6_step_j22 n r12.1 r12.2.1 r12.2.2 v1 v2 else (p_X1_has r12.2.1 v1).bind fun r19 => ck r19 (if r19 = 0 then some ((-1), r12.1, r12.2.1, r12.2.2) else p_X6_step_j22 n r12.1 r12.2.1 r12.2.2 v1 v2))
def p_X6_isWordSet (sF : Int) (sH : HisS) (v1 : Int) : Option (Int) :=
  ck v1 (if v1 < 0 then some 0 else (p_X2_wordsIn sH sF).bind fun r7 => ck (bishr v1 r7) (if bishr v1 r7 = 0 then some 1 else some 0))
def p_J6_bitCount_0f7a4 (v0 : Int) : Option (Int) :=
  some (biand (((biand (((biand (v0 - (biand (biushr v0 1) 1431655765)) 858993459) + (biand (biushr (v0 - (biand (biushr v0 1) 1431655765)) 2) 858993459)) + (biushr ((biand (v0 - (biand (biushr v0 1) 1431655765)) 858993459) + (biand (biushr (v0 - (biand (biushr v0 1) 1431655765)) 2) 858993459)) 4)) 252645135) + (biushr (biand (((biand (v0 - (biand (biushr v0 1) 1431655765)) 858993459) + (biand (biushr (v0 - (biand (biushr v0 1) 1431655765)) 2) 858993459)) + (biushr ((biand (v0 - (biand (biushr v0 1) 1431655765)) 858993459) + (biand (biushr (v0 - (biand (biushr v0 1) 1431655765)) 2) 858993459)) 4)) 252645135) 8)) + (biushr ((biand (((biand (v0 - (biand (biushr v0 1) 1431655765)) 858993459) + (biand (biushr (v0 - (biand (biushr v0 1) 1431655765)) 2) 858993459)) + (biushr ((biand (v0 - (biand (biushr v0 1) 1431655765)) 858993459) + (biand (biushr (v0 - (biand (biushr v0 1) 1431655765)) 2) 858993459)) 4)) 252645135) + (biushr (biand (((biand (v0 - (biand (biushr v0 1) 1431655765)) 858993459) + (biand (biushr (v0 - (biand (biushr v0 1) 1431655765)) 2) 858993459)) + (biushr ((biand (v0 - (biand (biushr v0 1) 1431655765)) 858993459) + (biand (biushr (v0 - (biand (biushr v0 1) 1431655765)) 2) 858993459)) 4)) 252645135) 8)) 16)) 63)
def p_X1_longestShared_j58 (n : Nat) (sC : ClsS) (sT : TxtS) (v4_58 : Int) (v5_58 : Int) (t0_58 : Int) : Option ((Int × Int) ⊕ (Int)) :=
  ck t0_58 (if 0 < t0_58 then some (.inl (v5_58, v5_58 + 1)) else if t0_58 = 0 then (p_X1_longestStart sC v5_58).bind fun r10 => (p_X1_longestStart sC v4_58).bind fun r12 => (p_X5_comesBefore n sT r10 r12).bind fun r14 => ck r14 (if r14 = 0 then some (.inl (v4_58, v5_58 + 1)) else some (.inl (v5_58, v5_58 + 1))) else some (.inl (v4_58, v5_58 + 1)))
def p_X1_longestShared_b7 (n : Nat) (sC : ClsS) (sT : TxtS) (v2 : Int) (v3 : Int) (z7 : Int × Int) : Option ((Int × Int) ⊕ (Int)) :=
  ck z7.2 (ck sC.size (if z7.2 < sC.size then ix z7.2 120 ((p_J6_bitCount_0f7a4 (biand (sC.wordSets z7.2) v2)).bind fun r31 => ck r31 (ck v3 (if r31 < v3 then some (.inl (z7.1, z7.2 + 1)) else ck z7.1 (if z7.1 = (-6) then p_X1_longestShared_j58 n sC sT z7.1 z7.2 1 else ix z7.1 120 (p_X1_longestShared_j58 n sC sT z7.1 z7.2 ((sC.longest z7.2) - (sC.longest z7.1))))))) else some (.inr z7.1)))
def p_X1_longestShared (n : Nat) (sC : ClsS) (sT : TxtS) (v2 : Int) (v3 : Int) : Option (Int) :=
  (lp (p_X1_longestShared_b7 n sC sT v2 v3) n ((-6), 0)).bind fun ex7 => some ex7
def p_X6_common (n : Nat) (sF : Int) (sH : HisS) (sP : PadS) (sT : TxtS) (sC : ClsS) (sK : SwpS) (v1 : Int) (v2 : Int) : Option (Int × PadS × TxtS × ClsS × SwpS) :=
  (p_X6_isWordSet sF sH v1).bind fun r1 => ck r1 (if r1 = 0 then some ((-1), sP, sT, sC, sK) else ck v2 (if v2 < 1 then some ((-2), sP, sT, sC, sK) else if 6 < v2 then some ((-2), sP, sT, sC, sK) else (p_X6_showClasses n sF sH sT sC sK).bind fun r17 => (p_X1_longestShared n r17.2.1 r17.1 v1 v2).bind fun r19 => ck r19 (if r19 = (-6) then some ((-6), sP, r17.1, r17.2.1, r17.2.2) else (p_X1_longestStart r17.2.1 r19).bind fun r26 => (p_X1_longestIn r17.2.1 r19).bind fun r28 => (p_X6_write n sP r17.1 r26 r28).bind fun r30 => some (r30.1, r30.2, r17.1, r17.2.1, r17.2.2))))
def p_X1_shortestStart (sC : ClsS) (v1 : Int) : Option (Int) :=
  (p_X1_firstEndOf sC v1).bind fun r1 => (p_X1_shortestIn sC v1).bind fun r3 => some ((r1 - r3) + 1)
def p_X1_shortestOnlyIn_j50 (n : Nat) (sC : ClsS) (sT : TxtS) (v3_50 : Int) (v4_50 : Int) (t0_50 : Int) : Option ((Int × Int) ⊕ (Int)) :=
  ck t0_50 (if 0 < t0_50 then some (.inl (v4_50, v4_50 + 1)) else if t0_50 = 0 then (p_X1_shortestStart sC v4_50).bind fun r10 => (p_X1_shortestStart sC v3_50).bind fun r12 => (p_X5_comesBefore n sT r10 r12).bind fun r14 => ck r14 (if r14 = 0 then some (.inl (v3_50, v4_50 + 1)) else some (.inl (v4_50, v4_50 + 1))) else some (.inl (v3_50, v4_50 + 1)))
def p_X1_shortestOnlyIn_b6 (n : Nat) (sC : ClsS) (sT : TxtS) (v2 : Int) (z6 : Int × Int) : Option ((Int × Int) ⊕ (Int)) :=
  ck z6.2 (ck sC.size (if z6.2 < sC.size then ix z6.2 120 (ck (sC.wordSets z6.2) (ck v2 (if sC.wordSets z6.2 = v2 then ck z6.1 (if z6.1 = (-6) then p_X1_shortestOnlyIn_j50 n sC sT z6.1 z6.2 1 else ix z6.1 120 (p_X1_shortestOnlyIn_j50 n sC sT z6.1 z6.2 ((sC.shortest z6.1) - (sC.shortest z6.2)))) else some (.inl (z6.1, z6.2 + 1))))) else some (.inr z6.1)))
def p_X1_shortestOnlyIn (n : Nat) (sC : ClsS) (sT : TxtS) (v2 : Int) : Option (Int) :=
  (lp (p_X1_shortestOnlyIn_b6 n sC sT v2) n ((-6), 0)).bind fun ex6 => some ex6
def p_X6_unique (n : Nat) (sF : Int) (sH : HisS) (sP : PadS) (sT : TxtS) (sC : ClsS) (sK : SwpS) (v1 : Int) : Option (Int × PadS × TxtS × ClsS × SwpS) :=
  (p_X6_isWordSet sF sH v1).bind fun r1 => ck r1 (if r1 = 0 then some ((-1), sP, sT, sC, sK) else ck v1 (if v1 = 0 then some ((-2), sP, sT, sC, sK) else (p_X6_showClasses n sF sH sT sC sK).bind fun r13 => (p_X1_shortestOnlyIn n r13.2.1 r13.1 v1).bind fun r15 => ck r15 (if r15 = (-6) then some ((-6), sP, r13.1, r13.2.1, r13.2.2) else (p_X1_shortestStart r13.2.1 r15).bind fun r22 => (p_X1_shortestIn r13.2.1 r15).bind fun r24 => (p_X6_write n sP r13.1 r22 r24).bind fun r26 => some (r26.1, r26.2, r13.1, r13.2.1, r13.2.2))))
def p_X5_takeFirstSequence_b7 (n : Nat) (sT : TxtS) (z7 : Int × Row) : Option ((Int × Row) ⊕ (Row)) :=
  ck z7.1 (ck sT.length (if z7.1 < sT.length then ix z7.1 60 (some (.inl (z7.1 + 1, up z7.2 z7.1 0))) else some (.inr z7.2)))
def p_X5_takeFirstSequence (n : Nat) (sT : TxtS) (v1 : Int) : Option (TxtS) :=
  (p_X5_becomeOneWord n sT v1).bind fun r1 => (lp (p_X5_takeFirstSequence_b7 n r1) n (0, r1.letters)).bind fun ex7 => some (ex7, r1.words, r1.places, r1.rests, r1.starts, r1.wordCount, r1.length, r1.version)
def p_X5_turnToNext_b7 (n : Nat) (sT : TxtS) (v1 : Int) (z7 : Int × Row) : Option ((Int × Row) ⊕ ((Int × TxtS) ⊕ (Row))) :=
  ck z7.1 (if z7.1 < 0 then some (.inr (.inr z7.2)) else ix z7.1 60 (ck ((z7.2 z7.1) + 1) (ck v1 (if (z7.2 z7.1) + 1 < v1 then some (.inr (.inl (1, (up z7.2 z7.1 ((z7.2 z7.1) + 1), sT.words, sT.places, sT.rests, sT.starts, sT.wordCount, sT.length, sT.version)))) else some (.inl (z7.1 + (-1), up z7.2 z7.1 0))))))
def p_X5_turnToNext (n : Nat) (sT : TxtS) (v1 : Int) : Option (Int × TxtS) :=
  (lp (p_X5_turnToNext_b7 n sT v1) n (sT.length - 1, sT.letters)).bind fun ex7 => Sum.elim (fun q7 => some q7) (fun e7 => some (0, (e7, sT.words, sT.places, sT.rests, sT.starts, sT.wordCount, sT.length, sT.version))) ex7
def p_X6_absent_b39 (n : Nat) (sT : TxtS) (v1 : Int) (v2 : Int) (z39 : Int × Int × PadS × TxtS) : Option ((Int × Int × PadS × TxtS) ⊕ ((Int × PadS × TxtS × TxtS) ⊕ (PadS × TxtS))) :=
  ck z39.2.1 (if 60 < z39.2.1 then some (.inr (.inr (z39.2.2.1, z39.2.2.2))) else ck z39.1 (if z39.1 = 0 then some (.inr (.inr (z39.2.2.1, z39.2.2.2))) else (p_X5_endNumber n sT z39.2.2.2 0).bind fun r29 => ck r29 (if r29 = (-6) then (p_X3_write n z39.2.2.1 z39.2.2.2 0 v2).bind fun r38 => some (.inr (.inl (v2, r38, sT, z39.2.2.2))) else (p_X5_turnToNext n z39.2.2.2 v1).bind fun r36 => some (.inl (r36.1, z39.2.1 + 1, z39.2.2.1, r36.2)))))
def p_X6_absent_b20 (n : Nat) (sT : TxtS) (v1 : Int) (z20 : Int × PadS × TxtS) : Option ((Int × PadS × TxtS) ⊕ ((Int × PadS × TxtS × TxtS) ⊕ (PadS × TxtS))) :=
  ck z20.1 (if 60 < z20.1 then some (.inr (.inr (z20.2.1, z20.2.2))) else (p_X5_takeFirstSequence n z20.2.2 z20.1).bind fun r17 => (lp (p_X6_absent_b39 n sT v1 z20.1) n (1, 0, z20.2.1, r17)).bind fun ex39 => Sum.elim (fun q39 => some (.inr (.inl q39))) (fun e39 => some (.inl (z20.1 + 1, e39.1, e39.2))) ex39)
def p_X6_absent (n : Nat) (sF : Int) (sH : HisS) (sP : PadS) (sT : TxtS) (sQ : TxtS) (v1 : Int) : Option (Int × PadS × TxtS × TxtS) :=
  ck v1 (if v1 < 1 then some ((-2), sP, sT, sQ) else if 8 < v1 then some ((-2), sP, sT, sQ) else (p_X6_showPresent n sF sH sT).bind fun r10 => (lp (p_X6_absent_b20 n r10 v1) n (1, sP, sQ)).bind fun ex20 => Sum.elim (fun q20 => some q20) (fun e20 => some ((-4), e20.1, r10, e20.2)) ex20)
def p_X1_minimalAbsent_b4 (n : Nat) (sC : ClsS) (z4 : Int × Int) : Option ((Int × Int) ⊕ (Int)) :=
  ck z4.2 (ck sC.size (if z4.2 < sC.size then ix z4.2 120 ((p_X1_stepsOf sC (sC.links z4.2)).bind fun r11 => (p_J6_bitCount_0f7a4 (biand r11 (bixor (sC.stepSets z4.2) (-1)))).bind fun r15 => some (.inl (z4.1 + r15, z4.2 + 1))) else some (.inr z4.1)))
def p_X1_minimalAbsent (n : Nat) (sC : ClsS) : Option (Int) :=
  (lp (p_X1_minimalAbsent_b4 n sC) n (0, 0)).bind fun ex4 => some ex4
def p_X6_minimal (n : Nat) (sF : Int) (sH : HisS) (sT : TxtS) (sC : ClsS) (sK : SwpS) : Option (Int × TxtS × ClsS × SwpS) :=
  (p_X6_showClasses n sF sH sT sC sK).bind fun r1 => (p_X1_minimalAbsent n r1.2.1).bind fun r3 => some (r3, r1.1, r1.2.1, r1.2.2)
def p_X1_allSteps_b10 (n : Nat) (sC : ClsS) (z10 : Int × Int) : Option ((Int × Int) ⊕ (Int)) :=
  ck z10.2 (ck sC.size (if z10.2 < sC.size then ix z10.2 120 ((p_J6_bitCount_0f7a4 (sC.stepSets z10.2)).bind fun r13 => some (.inl (z10.1 + r13, z10.2 + 1))) else some (.inr z10.1)))
def p_X1_allSteps (n : Nat) (sC : ClsS) : Option (Int) :=
  (p_J6_bitCount_0f7a4 sC.letterSet).bind fun r1 => (lp (p_X1_allSteps_b10 n sC) n (r1, 0)).bind fun ex10 => some ex10
def p_X1_size (sC : ClsS) : Option (Int) :=
  some sC.size
def p_X2_size (sH : HisS) : Option (Int) :=
  some sH.size
def p_X1_longestRepeat_b4 (n : Nat) (sC : ClsS) (z4 : Int × Int) : Option ((Int × Int) ⊕ (Int)) :=
  ck z4.2 (ck sC.size (if z4.2 < sC.size then ix z4.2 120 (ck (sC.ends z4.2) (if sC.ends z4.2 < 2 then some (.inl (z4.1, z4.2 + 1)) else ck z4.1 (ck (sC.longest z4.2) (some (.inl (max z4.1 (sC.longest z4.2), z4.2 + 1)))))) else some (.inr z4.1)))
def p_X1_longestRepeat (n : Nat) (sC : ClsS) : Option (Int) :=
  (lp (p_X1_longestRepeat_b4 n sC) n (0, 0)).bind fun ex4 => some ex4
def p_X6_count_j22 (n : Nat) (sF : Int) (sH : HisS) (sT_22 : TxtS) (sC_22 : ClsS) (sK_22 : SwpS) (v1_22 : Int) : Option (Int × TxtS × ClsS × SwpS) :=
  ck v1_22 (if v1_22 = 0 then some (sF, sT_22, sC_22, sK_22) else if v1_22 = 1 then (p_X2_size sH).bind fun r10 => some (r10, sT_22, sC_22, sK_22) else if v1_22 = 2 then (p_X2_wordsIn sH sF).bind fun r16 => some (r16, sT_22, sC_22, sK_22) else if v1_22 = 3 then (p_X2_lettersIn sH sF).bind fun r22 => some (r22, sT_22, sC_22, sK_22) else if v1_22 = 4 then (p_X1_size sC_22).bind fun r28 => some (r28, sT_22, sC_22, sK_22) else if v1_22 = 5 then (p_X1_allSteps n sC_22).bind fun r34 => some (r34, sT_22, sC_22, sK_22) else (p_X1_longestRepeat n sC_22).bind fun r37 => some (r37, sT_22, sC_22, sK_22))
def p_X6_count (n : Nat) (sF : Int) (sH : HisS) (sT : TxtS) (sC : ClsS) (sK : SwpS) (v1 : Int) : Option (Int × TxtS × ClsS × SwpS) :=
  ck v1 (if v1 < 0 then some ((-2), sT, sC, sK) else if 6 < v1 then some ((-2), sT, sC, sK) else if 3 < v1 then (p_X6_showClasses n sF sH sT sC sK).bind fun r52 => p_X6_count_j22 n sF sH r52.1 r52.2.1 r52.2.2 v1 else p_X6_count_j22 n sF sH sT sC sK v1)
def p_X7_make_j72 (sMv_72 : MvS) (v2_72 : Int) (t1_72 : Int) (t2_72 : Int) (t3_72 : Int) : Option (Int × MvS) :=
  ix t1_72 400 (some (v2_72, (sMv_72.parent, sMv_72.added, sMv_72.wordMany, up sMv_72.letterMany t1_72 (t2_72 + t3_72), sMv_72.versions + 1, v2_72)))
def p_X7_make_j46 (sMv_46 : MvS) (v1_46 : Int) (v2_46 : Int) (t1_46 : Int) (t2_46 : Int) (t3_46 : Int) : Option (Int × MvS) :=
  ix t1_46 400 (ix sMv_46.present 400 (ck v1_46 (if v1_46 = (-1) then p_X7_make_j72 (sMv_46.parent, sMv_46.added, up sMv_46.wordMany t1_46 (t2_46 + t3_46), sMv_46.letterMany, sMv_46.versions, sMv_46.present) v2_46 v2_46 (sMv_46.letterMany sMv_46.present) 0 else p_X7_make_j72 (sMv_46.parent, sMv_46.added, up sMv_46.wordMany t1_46 (t2_46 + t3_46), sMv_46.letterMany, sMv_46.versions, sMv_46.present) v2_46 v2_46 (sMv_46.letterMany sMv_46.present) 1)))
def p_X7_make (sMv : MvS) (v1 : Int) : Option (Int × MvS) :=
  ix sMv.versions 400 (ix sMv.present 400 (ck v1 (if v1 = (-1) then p_X7_make_j46 (up sMv.parent sMv.versions sMv.present, up sMv.added sMv.versions v1, sMv.wordMany, sMv.letterMany, sMv.versions, sMv.present) v1 sMv.versions sMv.versions (sMv.wordMany sMv.present) 1 else p_X7_make_j46 (up sMv.parent sMv.versions sMv.present, up sMv.added sMv.versions v1, sMv.wordMany, sMv.letterMany, sMv.versions, sMv.present) v1 sMv.versions sMv.versions (sMv.wordMany sMv.present) 0)))
def p_X7_begin (sMv : MvS) : Option (Int × MvS) :=
  ix sMv.present 400 (ck (sMv.wordMany sMv.present) (if sMv.wordMany sMv.present = 6 then some ((-4), sMv) else ck sMv.versions (if sMv.versions = 400 then some ((-4), sMv) else (p_X7_make sMv (-1)).bind fun r14 => some (r14.1, r14.2))))
def p_X7_in (v0 : Int) (v1 : Int) (v2 : Int) : Option (Int) :=
  ck v0 (ck v1 (if v0 < v1 then some 0 else ck v2 (if v2 < v0 then some 0 else some 1)))
def p_X7_append (sMv : MvS) (v1 : Int) : Option (Int × MvS) :=
  (p_X7_in v1 0 7).bind fun r1 => ck r1 (if r1 = 0 then some ((-2), sMv) else ix sMv.present 400 (ck (sMv.wordMany sMv.present) (if sMv.wordMany sMv.present = 0 then some ((-5), sMv) else ck (sMv.letterMany sMv.present) (if sMv.letterMany sMv.present = 60 then some ((-4), sMv) else ck sMv.versions (if sMv.versions = 400 then some ((-4), sMv) else (p_X7_make sMv v1).bind fun r28 => some (r28.1, r28.2))))))
def p_X7_isLetter (v1 : Int) : Option (Int) :=
  (p_X7_in v1 97 104).bind fun r1 => bk r1 (some r1)
def p_X7_faultOf_b2 (n : Nat) (sMp : MpS) (v1 : Int) (z2 : Int) : Option ((Int) ⊕ ((Int) ⊕ (Unit))) :=
  ck z2 (ck sMp.padMany (if z2 < sMp.padMany then ix z2 60 ((p_X7_isLetter (sMp.pad z2)).bind fun r10 => ck r10 (if r10 = 0 then ck v1 (if v1 = 1 then ck (sMp.pad z2) (if sMp.pad z2 = 47 then some (.inl (z2 + 1)) else some (.inr (.inl z2))) else some (.inr (.inl z2))) else some (.inl (z2 + 1)))) else some (.inr (.inr ()))))
def p_X7_faultOf (n : Nat) (sMp : MpS) (v1 : Int) : Option (Int) :=
  (lp (p_X7_faultOf_b2 n sMp v1) n 0).bind fun ex2 => Sum.elim (fun q2 => some q2) (fun e2 => ck v1 (if v1 = 0 then ck sMp.padMany (if sMp.padMany = 0 then some 0 else some (-6)) else some (-6))) ex2
def p_X7_load_b50 (n : Nat) (sMp : MpS) (z50 : Int × Int) : Option ((Int × Int) ⊕ (Int)) :=
  ck z50.2 (ck sMp.padMany (if z50.2 < sMp.padMany then ix z50.2 60 (ck (sMp.pad z50.2) (if sMp.pad z50.2 = 47 then some (.inl (z50.1 + 1, z50.2 + 1)) else some (.inl (z50.1 + 0, z50.2 + 1)))) else some (.inr z50.1)))
def p_X7_load_j173 (n : Nat) (sMv_173 : MvS) (v2_173 : Int) (t1_173 : Int) : Option ((Int × MvS) ⊕ (MvS)) :=
  (p_X7_make sMv_173 t1_173).bind fun r55 => some (.inl (v2_173 + 1, r55.2))
def p_X7_load_b140 (n : Nat) (sMp : MpS) (z140 : Int × MvS) : Option ((Int × MvS) ⊕ (MvS)) :=
  ck z140.1 (ck sMp.padMany (if z140.1 < sMp.padMany then ix z140.1 60 (ck (sMp.pad z140.1) (if sMp.pad z140.1 = 47 then p_X7_load_j173 n z140.2 z140.1 (-1) else p_X7_load_j173 n z140.2 z140.1 ((sMp.pad z140.1) - 97))) else some (.inr z140.2)))
def p_X7_load_j46 (n : Nat) (sMv_46 : MvS) (sMp_46 : MpS) : Option (Int × MvS × MpS) :=
  (lp (p_X7_load_b50 n sMp_46) n (0, 0)).bind fun ex50 => ix sMv_46.present 400 (ck ((sMv_46.wordMany sMv_46.present) + ex50) (if 6 < (sMv_46.wordMany sMv_46.present) + ex50 then some ((-4), sMv_46, sMp_46) else ck (((sMv_46.letterMany sMv_46.present) + sMp_46.padMany) - ex50) (if 60 < ((sMv_46.letterMany sMv_46.present) + sMp_46.padMany) - ex50 then some ((-4), sMv_46, sMp_46) else ck (sMv_46.versions + sMp_46.padMany) (if 400 < sMv_46.versions + sMp_46.padMany then some ((-4), sMv_46, sMp_46) else (lp (p_X7_load_b140 n sMp_46) n (0, sMv_46)).bind fun ex140 => some (ex140.present, ex140, (sMp_46.pad, 0))))))
def p_X7_load (n : Nat) (sMv : MvS) (sMp : MpS) : Option (Int × MvS × MpS) :=
  (p_X7_faultOf n sMp 1).bind fun r97 => ck r97 (if r97 = (-6) then ck sMp.padMany (if 0 < sMp.padMany then ck (sMp.pad 0) (if sMp.pad 0 = 47 then p_X7_load_j46 n sMv sMp else ix sMv.present 400 (ck (sMv.wordMany sMv.present) (if sMv.wordMany sMv.present = 0 then some ((-5), sMv, sMp) else p_X7_load_j46 n sMv sMp))) else p_X7_load_j46 n sMv sMp) else some ((-3), sMv, sMp))
def p_X7_isVersion (sMv : MvS) (v1 : Int) : Option (Int) :=
  (p_X7_in v1 0 (sMv.versions - 1)).bind fun r1 => bk r1 (some r1)
def p_X7_go (sMv : MvS) (v1 : Int) : Option (Int × MvS) :=
  (p_X7_isVersion sMv v1).bind fun r1 => ck r1 (if r1 = 0 then some ((-1), sMv) else some (sMv.present, (sMv.parent, sMv.added, sMv.wordMany, sMv.letterMany, sMv.versions, v1)))
def p_X7_back_b21 (n : Nat) (sMv : MvS) (v1 : Int) (z21 : Int × Int) : Option ((Int × Int) ⊕ (Int)) :=
  ck z21.2 (ck v1 (if z21.2 < v1 then ck z21.1 (if z21.1 < 0 then some (.inr z21.1) else ix z21.1 400 (some (.inl (sMv.parent z21.1, z21.2 + 1)))) else some (.inr z21.1)))
def p_X7_back (n : Nat) (sMv : MvS) (v1 : Int) : Option (Int × MvS) :=
  (p_X7_in v1 0 400).bind fun r1 => ck r1 (if r1 = 0 then some ((-2), sMv) else (lp (p_X7_back_b21 n sMv v1) n (sMv.present, 0)).bind fun ex21 => ck ex21 (if ex21 < 0 then some ((-6), sMv) else some (ex21, (sMv.parent, sMv.added, sMv.wordMany, sMv.letterMany, sMv.versions, ex21))))
def p_X7_lay_b5 (n : Nat) (sMv : MvS) (z5 : Int × Int × Row) : Option ((Int × Int × Row) ⊕ (Int × Row)) :=
  ck z5.2.1 (if 0 < z5.2.1 then ix z5.2.1 400 (ix z5.1 70 (some (.inl (z5.1 + 1, sMv.parent z5.2.1, up z5.2.2 z5.1 (sMv.added z5.2.1))))) else some (.inr (z5.1, z5.2.2)))
def p_X7_lay_b57 (n : Nat) (sMt : MtS) (v1 : Int) (z57 : Int × Row × Row × Row × Row × Row × Row) : Option ((Int × Row × Row × Row × Row × Row × Row) ⊕ (Row × Row × Row × Row × Row × Row)) :=
  ck z57.1 (if z57.1 < 0 then some (.inr (z57.2.1, z57.2.2.1, z57.2.2.2.1, z57.2.2.2.2.1, z57.2.2.2.2.2.1, z57.2.2.2.2.2.2)) else ix v1 2 (ix z57.1 70 (ck (sMt.line z57.1) (if sMt.line z57.1 = (-1) then ix ((6 * v1) + (z57.2.2.2.2.2.2 v1)) 12 (some (.inl (z57.1 + (-1), z57.2.1, z57.2.2.1, up z57.2.2.2.1 ((6 * v1) + (z57.2.2.2.2.2.2 v1)) (z57.2.2.2.2.2.1 v1), up z57.2.2.2.2.1 ((6 * v1) + (z57.2.2.2.2.2.2 v1)) (z57.2.2.2.2.2.1 v1), z57.2.2.2.2.2.1, up z57.2.2.2.2.2.2 v1 ((z57.2.2.2.2.2.2 v1) + 1)))) else ix ((60 * v1) + (z57.2.2.2.2.2.1 v1)) 120 (ix (((6 * v1) + (z57.2.2.2.2.2.2 v1)) - 1) 12 (some (.inl (z57.1 + (-1), up z57.2.1 ((60 * v1) + (z57.2.2.2.2.2.1 v1)) (sMt.line z57.1), up z57.2.2.1 ((60 * v1) + (z57.2.2.2.2.2.1 v1)) ((z57.2.2.2.2.2.2 v1) - 1), z57.2.2.2.1, up z57.2.2.2.2.1 (((6 * v1) + (z57.2.2.2.2.2.2 v1)) - 1) ((up z57.2.2.2.2.2.1 v1 ((z57.2.2.2.2.2.1 v1) + 1)) v1), up z57.2.2.2.2.2.1 v1 ((z57.2.2.2.2.2.1 v1) + 1), z57.2.2.2.2.2.2))))))))
def p_X7_lay (n : Nat) (sMv : MvS) (sMt : MtS) (v1 : Int) (v2 : Int) : Option (MtS) :=
  (lp (p_X7_lay_b5 n sMv) n (0, v2, sMt.line)).bind fun ex5 => ix v1 2 ((lp (p_X7_lay_b57 n (sMt.text, sMt.wordOf, sMt.start, sMt.stop, up sMt.many v1 0, up sMt.words v1 0, ex5.2) v1) n (ex5.1 - 1, sMt.text, sMt.wordOf, sMt.start, sMt.stop, up sMt.many v1 0, up sMt.words v1 0)).bind fun ex57 => some (ex57.1, ex57.2.1, ex57.2.2.1, ex57.2.2.2.1, ex57.2.2.2.2.1, ex57.2.2.2.2.2, ex5.2))
def p_X7_rest (sMt : MtS) (v1 : Int) (v2 : Int) : Option (Int) :=
  ix ((60 * v1) + v2) 120 (ix ((6 * v1) + (sMt.wordOf ((60 * v1) + v2))) 12 (some ((sMt.stop ((6 * v1) + (sMt.wordOf ((60 * v1) + v2)))) - v2)))
def p_X7_alike_b37 (n : Nat) (sMt : MtS) (v1 : Int) (v2 : Int) (v3 : Int) (v4 : Int) (v5 : Int) (z37 : Int) : Option ((Int) ⊕ (Int)) :=
  ck z37 (ck v5 (if z37 < v5 then ix (((60 * v1) + v2) + z37) 120 (ix (((60 * v3) + v4) + z37) 120 (ck (sMt.text (((60 * v1) + v2) + z37)) (ck (sMt.text (((60 * v3) + v4) + z37)) (if sMt.text (((60 * v1) + v2) + z37) = sMt.text (((60 * v3) + v4) + z37) then some (.inl (z37 + 1)) else some (.inr z37))))) else some (.inr z37)))
def p_X7_alike_j32 (n : Nat) (sMt : MtS) (v1_32 : Int) (v2_32 : Int) (v3_32 : Int) (v4_32 : Int) (t0_32 : Int) : Option (Int) :=
  (lp (p_X7_alike_b37 n sMt v1_32 v2_32 v3_32 v4_32 t0_32) n 0).bind fun ex37 => some ex37
def p_X7_alike (n : Nat) (sMt : MtS) (v1 : Int) (v2 : Int) (v3 : Int) (v4 : Int) : Option (Int) :=
  (p_X7_rest sMt v1 v2).bind fun r44 => (p_X7_rest sMt v3 v4).bind fun r46 => ck r44 (ck r46 (if r44 < r46 then (p_X7_rest sMt v1 v2).bind fun r57 => p_X7_alike_j32 n sMt v1 v2 v3 v4 r57 else (p_X7_rest sMt v3 v4).bind fun r55 => p_X7_alike_j32 n sMt v1 v2 v3 v4 r55))
def p_X7_isBefore (n : Nat) (sMt : MtS) (v1 : Int) (v2 : Int) : Option (Int) :=
  (p_X7_alike n sMt 0 v1 0 v2).bind fun r1 => (p_X7_rest sMt 0 v1).bind fun r3 => ck r1 (ck r3 (if r1 = r3 then (p_X7_rest sMt 0 v2).bind fun r33 => ck r33 (if r1 < r33 then some 1 else ck v1 (ck v2 (if v1 < v2 then some 1 else some 0))) else (p_X7_rest sMt 0 v2).bind fun r12 => ck r12 (if r1 < r12 then ix (v1 + r1) 120 (ix (v2 + r1) 120 (ck (sMt.text (v1 + r1)) (ck (sMt.text (v2 + r1)) (if sMt.text (v1 + r1) < sMt.text (v2 + r1) then some 1 else some 0)))) else some 0)))
def p_X7_sort_b14 (n : Nat) (sMt : MtS) (v1 : Int) (z14 : Int × Row) : Option ((Int × Row) ⊕ (Int × Row)) :=
  ck z14.1 (if 0 < z14.1 then ix (z14.1 - 1) 60 ((p_X7_isBefore n sMt v1 (z14.2 (z14.1 - 1))).bind fun r19 => ck r19 (if r19 = 0 then some (.inr (z14.1, z14.2)) else ix z14.1 60 (some (.inl (z14.1 + (-1), up z14.2 z14.1 (z14.2 (z14.1 - 1))))))) else some (.inr (z14.1, z14.2)))
def p_X7_sort_b2 (n : Nat) (sMt : MtS) (z2 : Int × Row) : Option ((Int × Row) ⊕ (Row)) :=
  ck z2.1 (ck (sMt.many 0) (if z2.1 < sMt.many 0 then (lp (p_X7_sort_b14 n sMt z2.1) n (z2.1, z2.2)).bind fun ex14 => ix ex14.1 60 (some (.inl (z2.1 + 1, up ex14.2 ex14.1 z2.1))) else some (.inr z2.2)))
def p_X7_sort_b69 (n : Nat) (sMt : MtS) (sMs : MsS) (z69 : Int × Row) : Option ((Int × Row) ⊕ (Row)) :=
  ck z69.1 (ck (sMt.many 0) (if z69.1 < sMt.many 0 then if z69.1 = 0 then ix z69.1 60 (some (.inl (z69.1 + 1, up z69.2 z69.1 0))) else ix (z69.1 - 1) 60 (ix z69.1 60 ((p_X7_alike n sMt 0 (sMs.sorted (z69.1 - 1)) 0 (sMs.sorted z69.1)).bind fun r128 => some (.inl (z69.1 + 1, up z69.2 z69.1 r128)))) else some (.inr z69.2)))
def p_X7_sort (n : Nat) (sMt : MtS) (sMs : MsS) : Option (MsS) :=
  (lp (p_X7_sort_b2 n sMt) n (0, sMs.sorted)).bind fun ex2 => (lp (p_X7_sort_b69 n sMt (ex2, sMs.near)) n (0, sMs.near)).bind fun ex69 => some (ex2, ex69)
def p_X7_distinct_b4 (n : Nat) (sMt : MtS) (sMs : MsS) (z4 : Int × Int) : Option ((Int × Int) ⊕ (Int)) :=
  ck z4.2 (ck (sMt.many 0) (if z4.2 < sMt.many 0 then ix z4.2 60 ((p_X7_rest sMt 0 (sMs.sorted z4.2)).bind fun r13 => some (.inl (z4.1 + (r13 - (sMs.near z4.2)), z4.2 + 1))) else some (.inr z4.1)))
def p_X7_distinct (n : Nat) (sMt : MtS) (sMs : MsS) : Option (Int) :=
  (lp (p_X7_distinct_b4 n sMt sMs) n (0, 0)).bind fun ex4 => some ex4
def p_X7_depth_b4 (n : Nat) (sMv : MvS) (z4 : Int × Int) : Option ((Int × Int) ⊕ (Int)) :=
  ck z4.2 (if 0 < z4.2 then ix z4.2 400 (some (.inl (z4.1 + 1, sMv.parent z4.2))) else some (.inr z4.1))
def p_X7_depth (n : Nat) (sMv : MvS) (v1 : Int) : Option (Int) :=
  (lp (p_X7_depth_b4 n sMv) n (0, v1)).bind fun ex4 => some ex4
def p_X7_children_b4 (n : Nat) (sMv : MvS) (v1 : Int) (z4 : Int × Int) : Option ((Int × Int) ⊕ (Int)) :=
  ck z4.2 (ck sMv.versions (if z4.2 < sMv.versions then ix z4.2 400 (ck (sMv.parent z4.2) (ck v1 (if sMv.parent z4.2 = v1 then some (.inl (z4.1 + 1, z4.2 + 1)) else some (.inl (z4.1 + 0, z4.2 + 1))))) else some (.inr z4.1)))
def p_X7_children (n : Nat) (sMv : MvS) (v1 : Int) : Option (Int) :=
  (lp (p_X7_children_b4 n sMv v1) n (0, 1)).bind fun ex4 => some ex4
def p_X7_version (n : Nat) (sMv : MvS) (sMt : MtS) (sMs : MsS) (v1 : Int) (v2 : Int) : Option (Int × MtS × MsS) :=
  (p_X7_isVersion sMv v1).bind fun r1 => ck r1 (if r1 = 0 then some ((-1), sMt, sMs) else ck v2 (if v2 = 0 then ix v1 400 (some (sMv.parent v1, sMt, sMs)) else if v2 = 1 then (p_X7_children n sMv v1).bind fun r19 => some (r19, sMt, sMs) else if v2 = 2 then ix v1 400 (some (sMv.wordMany v1, sMt, sMs)) else if v2 = 3 then ix v1 400 (some (sMv.letterMany v1, sMt, sMs)) else if v2 = 4 then (p_X7_depth n sMv v1).bind fun r37 => some (r37, sMt, sMs) else if v2 = 5 then (p_X7_lay n sMv sMt 0 v1).bind fun r43 => (p_X7_sort n r43 sMs).bind fun r45 => (p_X7_distinct n r43 r45).bind fun r47 => some (r47, r43, r45) else some ((-2), sMt, sMs)))
def p_X7_meet_b23 (n : Nat) (sMv : MvS) (z23 : Int × Int) : Option ((Int × Int) ⊕ (Int)) :=
  ck z23.1 (ck z23.2 (if z23.1 = z23.2 then some (.inr z23.1) else if z23.2 < z23.1 then ix z23.1 400 (some (.inl (sMv.parent z23.1, z23.2))) else ix z23.2 400 (some (.inl (z23.1, sMv.parent z23.2)))))
def p_X7_meet (n : Nat) (sMv : MvS) (v1 : Int) (v2 : Int) : Option (Int) :=
  (p_X7_isVersion sMv v1).bind fun r1 => ck r1 (if r1 = 0 then some (-1) else (p_X7_isVersion sMv v2).bind fun r9 => ck r9 (if r9 = 0 then some (-1) else (lp (p_X7_meet_b23 n sMv) n (v1, v2)).bind fun ex23 => some ex23))
def p_X7_more_b62 (n : Nat) (sMt : MtS) (sMs : MsS) (v4 : Int) (z62 : Int × Int) : Option ((Int × Int) ⊕ (Int)) :=
  ck z62.2 (ck (sMt.many 1) (if z62.2 < sMt.many 1 then ix v4 60 ((p_X7_alike n sMt 0 (sMs.sorted v4) 1 z62.2).bind fun r46 => ck r46 (ck z62.1 (if z62.1 < r46 then some (.inl (r46, z62.2 + 1)) else some (.inl (z62.1, z62.2 + 1))))) else some (.inr z62.1)))
def p_X7_more_b39 (n : Nat) (sMt : MtS) (sMs : MsS) (z39 : Int × Int) : Option ((Int × Int) ⊕ (Int)) :=
  ck z39.2 (ck (sMt.many 0) (if z39.2 < sMt.many 0 then ix z39.2 60 ((lp (p_X7_more_b62 n sMt sMs z39.2) n (sMs.near z39.2, 0)).bind fun ex62 => ix z39.2 60 ((p_X7_rest sMt 0 (sMs.sorted z39.2)).bind fun r80 => some (.inl (z39.1 + (r80 - ex62), z39.2 + 1)))) else some (.inr z39.1)))
def p_X7_more (n : Nat) (sMv : MvS) (sMt : MtS) (sMs : MsS) (v1 : Int) (v2 : Int) : Option (Int × MtS × MsS) :=
  (p_X7_isVersion sMv v1).bind fun r1 => ck r1 (if r1 = 0 then some ((-1), sMt, sMs) else (p_X7_isVersion sMv v2).bind fun r9 => ck r9 (if r9 = 0 then some ((-1), sMt, sMs) else (p_X7_lay n sMv sMt 0 v1).bind fun r16 => (p_X7_sort n r16 sMs).bind fun r18 => (p_X7_lay n sMv r16 1 v2).bind fun r20 => (lp (p_X7_more_b39 n r20 r18) n (0, 0)).bind fun ex39 => some (ex39, r20, r18)))
def p_X7_layPresent (n : Nat) (sMv : MvS) (sMt : MtS) : Option (MtS) :=
  (p_X7_lay n sMv sMt 0 sMv.present).bind fun r1 => some r1
def p_X7_letterAt (sMt : MtS) (v1 : Int) : Option (Int) :=
  ix v1 120 (some (sMt.text v1))
def p_X7_letter (n : Nat) (sMv : MvS) (sMt : MtS) (v1 : Int) (v2 : Int) : Option (Int × MtS) :=
  ix sMv.present 400 ((p_X7_in v1 0 ((sMv.wordMany sMv.present) - 1)).bind fun r3 => ck r3 (if r3 = 0 then some ((-1), sMt) else (p_X7_layPresent n sMv sMt).bind fun r10 => ix v1 12 (ck v2 (if v2 = (-1) then some ((r10.stop v1) - (r10.start v1), r10) else (p_X7_in v2 0 (((r10.stop v1) - (r10.start v1)) - 1)).bind fun r21 => ck r21 (if r21 = 0 then some ((-6), r10) else (p_X7_letterAt r10 ((r10.start v1) + v2)).bind fun r31 => some (r31, r10))))))
def p_X7_say (sMp : MpS) (v1 : Int) : Option (Int × MpS) :=
  (p_X7_in v1 33 126).bind fun r1 => ck r1 (if r1 = 0 then some ((-2), sMp) else ck sMp.padMany (if sMp.padMany = 60 then some ((-4), sMp) else ix sMp.padMany 60 (some (sMp.padMany + 1, (up sMp.pad sMp.padMany v1, sMp.padMany + 1)))))
def p_X7_wipe (sMp : MpS) : Option (Int × MpS) :=
  some (sMp.padMany, (sMp.pad, 0))
def p_X7_pad (sMp : MpS) (v1 : Int) : Option (Int) :=
  ck v1 (if v1 = (-1) then some sMp.padMany else (p_X7_in v1 0 (sMp.padMany - 1)).bind fun r6 => ck r6 (if r6 = 0 then some (-6) else ix v1 60 (some (sMp.pad v1))))
def p_X7_fault (n : Nat) (sMp : MpS) (v1 : Int) : Option (Int) :=
  (p_X7_in v1 0 1).bind fun r1 => ck r1 (if r1 = 0 then some (-2) else (p_X7_faultOf n sMp v1).bind fun r9 => some r9)
def p_X7_isPattern (n : Nat) (sMp : MpS) : Option (Int) :=
  (p_X7_faultOf n sMp 0).bind fun r1 => ck r1 (if r1 = (-6) then some 1 else some 0)
def p_X7_stands_b20 (n : Nat) (sMp : MpS) (sMt : MtS) (v1 : Int) (v2 : Int) (v3 : Int) (z20 : Int × Int) : Option ((Int × Int) ⊕ (Int)) :=
  ck z20.2 (ck v3 (if z20.2 < v3 then ck z20.1 (if z20.1 = 0 then some (.inr z20.1) else (p_X7_letterAt sMt (v1 + z20.2)).bind fun r15 => ix (v2 + z20.2) 60 (ck r15 (ck ((sMp.pad (v2 + z20.2)) - 97) (if r15 = (sMp.pad (v2 + z20.2)) - 97 then some (.inl (1, z20.2 + 1)) else some (.inl (0, z20.2 + 1)))))) else some (.inr z20.1)))
def p_X7_stands_j15 (n : Nat) (sMp : MpS) (sMt : MtS) (v1_15 : Int) (v2_15 : Int) (v3_15 : Int) (t0_15 : Int) : Option (Int) :=
  (lp (p_X7_stands_b20 n sMp sMt v1_15 v2_15 v3_15) n (t0_15, 0)).bind fun ex20 => bk ex20 (some ex20)
def p_X7_stands (n : Nat) (sMp : MpS) (sMt : MtS) (v1 : Int) (v2 : Int) (v3 : Int) : Option (Int) :=
  (p_X7_rest sMt 0 v1).bind fun r56 => ck r56 (ck v3 (if r56 < v3 then p_X7_stands_j15 n sMp sMt v1 v2 v3 0 else p_X7_stands_j15 n sMp sMt v1 v2 v3 1))
def p_X7_isSame (n : Nat) (sMt : MtS) (v1 : Int) (v2 : Int) (v3 : Int) : Option (Int) :=
  (p_X7_alike n sMt 0 v1 0 v2).bind fun r1 => ck r1 (ck v3 (if r1 < v3 then some 0 else some 1))
def p_X7_firstPlace_b2 (n : Nat) (sMt : MtS) (v1 : Int) (v2 : Int) (z2 : Int) : Option ((Int) ⊕ (Int)) :=
  (p_X7_isSame n sMt v1 z2 v2).bind fun r1 => ck r1 (if r1 = 0 then some (.inl (z2 + 1)) else some (.inr z2))
def p_X7_firstPlace (n : Nat) (sMt : MtS) (v1 : Int) (v2 : Int) : Option (Int) :=
  (lp (p_X7_firstPlace_b2 n sMt v1 v2) n 0).bind fun ex2 => some ex2
def p_X7_endsAt_b5 (n : Nat) (sMt : MtS) (v1 : Int) (v2 : Int) (z5 : Int × Int) : Option ((Int × Int) ⊕ (Int)) :=
  ck z5.2 (ck (sMt.many 0) (if z5.2 < sMt.many 0 then (p_X7_isSame n sMt v1 z5.2 v2).bind fun r11 => ck r11 (if r11 = 0 then some (.inl (z5.1 + 0, z5.2 + 1)) else some (.inl (z5.1 + 1, z5.2 + 1))) else some (.inr z5.1)))
def p_X7_endsAt (n : Nat) (sMt : MtS) (v1 : Int) (v2 : Int) : Option (Int) :=
  (lp (p_X7_endsAt_b5 n sMt v1 v2) n (0, 0)).bind fun ex5 => some ex5
def p_X7_layClasses_j118 (n : Nat) (sMc_classLast_118 : Row) (sMc_classShort_118 : Row) (sMc_classLong_118 : Row) (sMc_classEnds_118 : Row) (sMc_classes_118 : Int) (v2_118 : Int) (v3_118 : Int) : Option ((Int × Int × Row × Row × Row × Row × Int) ⊕ (Row × Row × Row × Row × Int)) :=
  ix (sMc_classes_118 - 1) 200 (some (.inl (v2_118, v3_118 + 1, sMc_classLast_118, sMc_classShort_118, up sMc_classLong_118 (sMc_classes_118 - 1) v3_118, sMc_classEnds_118, sMc_classes_118)))
def p_X7_layClasses_b21 (n : Nat) (sMt : MtS) (v1 : Int) (z21 : Int × Int × Row × Row × Row × Row × Int) : Option ((Int × Int × Row × Row × Row × Row × Int) ⊕ (Row × Row × Row × Row × Int)) :=
  ix v1 120 (ix (sMt.wordOf v1) 12 (ck z21.2.1 (ck ((v1 - (sMt.start (sMt.wordOf v1))) + 1) (if (v1 - (sMt.start (sMt.wordOf v1))) + 1 < z21.2.1 then some (.inr (z21.2.2.1, z21.2.2.2.1, z21.2.2.2.2.1, z21.2.2.2.2.2.1, z21.2.2.2.2.2.2)) else (p_X7_firstPlace n sMt ((v1 - z21.2.1) + 1) z21.2.1).bind fun r26 => ck r26 (ck ((v1 - z21.2.1) + 1) (if r26 = (v1 - z21.2.1) + 1 then (p_X7_endsAt n sMt ((v1 - z21.2.1) + 1) z21.2.1).bind fun r35 => ck r35 (ck z21.1 (if r35 = z21.1 then p_X7_layClasses_j118 n z21.2.2.1 z21.2.2.2.1 z21.2.2.2.2.1 z21.2.2.2.2.2.1 z21.2.2.2.2.2.2 z21.1 z21.2.1 else ix z21.2.2.2.2.2.2 200 (p_X7_layClasses_j118 n (up z21.2.2.1 z21.2.2.2.2.2.2 v1) (up z21.2.2.2.1 z21.2.2.2.2.2.2 z21.2.1) z21.2.2.2.2.1 (up z21.2.2.2.2.2.1 z21.2.2.2.2.2.2 r35) (z21.2.2.2.2.2.2 + 1) r35 z21.2.1))) else some (.inl (z21.1, z21.2.1 + 1, z21.2.2.1, z21.2.2.2.1, z21.2.2.2.2.1, z21.2.2.2.2.2.1, z21.2.2.2.2.2.2))))))))
def p_X7_layClasses_b7 (n : Nat) (sMt : MtS) (z7 : Int × Row × Row × Row × Row × Int) : Option ((Int × Row × Row × Row × Row × Int) ⊕ (Row × Row × Row × Row × Int)) :=
  ck z7.1 (ck (sMt.many 0) (if z7.1 < sMt.many 0 then (lp (p_X7_layClasses_b21 n sMt z7.1) n (0, 1, z7.2.1, z7.2.2.1, z7.2.2.2.1, z7.2.2.2.2.1, z7.2.2.2.2.2)).bind fun ex21 => some (.inl (z7.1 + 1, ex21.1, ex21.2.1, ex21.2.2.1, ex21.2.2.2.1, ex21.2.2.2.2)) else some (.inr (z7.2.1, z7.2.2.1, z7.2.2.2.1, z7.2.2.2.2.1, z7.2.2.2.2.2))))
def p_X7_layClasses (n : Nat) (sMt : MtS) (sMc : McS) : Option (McS) :=
  (lp (p_X7_layClasses_b7 n sMt) n (0, sMc.classLast, sMc.classShort, sMc.classLong, sMc.classEnds, 0)).bind fun ex7 => some (ex7.1, ex7.2.1, ex7.2.2.1, ex7.2.2.2.1, ex7.2.2.2.2)
def p_X7_classAt_b14 (n : Nat) (sMc : McS) (v2 : Int) (v3 : Int) (z14 : Int) : Option ((Int) ⊕ ((Int) ⊕ (Unit))) :=
  ck z14 (ck sMc.classes (if z14 < sMc.classes then ix z14 200 (ck (sMc.classLast z14) (ck v3 (if sMc.classLast z14 = v3 then (p_X7_in v2 (sMc.classShort z14) (sMc.classLong z14)).bind fun r23 => ck r23 (if r23 = 0 then some (.inl (z14 + 1)) else some (.inr (.inl z14))) else some (.inl (z14 + 1))))) else some (.inr (.inr ()))))
def p_X7_classAt (n : Nat) (sMt : MtS) (sMc : McS) (v1 : Int) (v2 : Int) : Option (Int) :=
  (p_X7_firstPlace n sMt v1 v2).bind fun r1 => (lp (p_X7_classAt_b14 n sMc v2 ((r1 + v2) - 1)) n 0).bind fun ex14 => Sum.elim (fun q14 => some q14) (fun e14 => some (-6)) ex14
def p_X7_apart_b6 (n : Nat) (sMp : MpS) (sMt : MtS) (z6 : Int × Int × Int) : Option ((Int × Int × Int) ⊕ (Int)) :=
  ck z6.2.2 (ck (sMt.many 0) (if z6.2.2 < sMt.many 0 then ck z6.2.1 (if z6.2.2 < z6.2.1 then some (.inl (z6.1, z6.2.1, z6.2.2 + 1)) else (p_X7_stands n sMp sMt z6.2.2 0 sMp.padMany).bind fun r16 => ck r16 (if r16 = 0 then some (.inl (z6.1, z6.2.1, z6.2.2 + 1)) else some (.inl (z6.1 + 1, z6.2.2 + sMp.padMany, z6.2.2 + 1)))) else some (.inr z6.1)))
def p_X7_apart (n : Nat) (sMp : MpS) (sMt : MtS) : Option (Int) :=
  (lp (p_X7_apart_b6 n sMp sMt) n (0, 0, 0)).bind fun ex6 => some ex6
def p_X7_occurs_b44 (n : Nat) (sMp : MpS) (sMt : MtS) (z44 : Int × Int × Int × Int) : Option ((Int × Int × Int × Int) ⊕ (Int × Int × Int)) :=
  ck z44.2.2.2 (if z44.2.2.2 < 0 then some (.inr (z44.1, z44.2.1, z44.2.2.1)) else (p_X7_stands n sMp sMt z44.2.2.2 0 sMp.padMany).bind fun r25 => ck r25 (if r25 = 0 then some (.inl (z44.1, z44.2.1, z44.2.2.1, z44.2.2.2 + (-1))) else ix z44.2.2.2 120 (some (.inl (z44.1 + 1, bior z44.2.1 (bishl 1 (sMt.wordOf z44.2.2.2)), z44.2.2.2, z44.2.2.2 + (-1))))))
def p_X7_occurs (n : Nat) (sMv : MvS) (sMp : MpS) (sMt : MtS) (sMc : McS) (v1 : Int) : Option (Int × MtS × McS) :=
  (p_X7_in v1 0 3).bind fun r1 => ck r1 (if r1 = 0 then some ((-2), sMt, sMc) else (p_X7_isPattern n sMp).bind fun r8 => ck r8 (if r8 = 0 then some ((-3), sMt, sMc) else (p_X7_layPresent n sMv sMt).bind fun r15 => (lp (p_X7_occurs_b44 n sMp r15) n (0, 0, (-6), (r15.many 0) - 1)).bind fun ex44 => ck v1 (if v1 = 0 then some (ex44.1, r15, sMc) else if v1 = 1 then some (ex44.2.1, r15, sMc) else if v1 = 2 then (p_X7_layClasses n r15 sMc).bind fun r64 => ck ex44.2.2 (if ex44.2.2 < 0 then some ((-6), r15, r64) else (p_X7_classAt n r15 r64 ex44.2.2 sMp.padMany).bind fun r71 => some (r71, r15, r64)) else (p_X7_apart n sMp r15).bind fun r75 => some (r75, r15, sMc))))
def p_X7_asEnd (sMt : MtS) (v1 : Int) : Option (Int) :=
  ix v1 120 (ix (sMt.wordOf v1) 12 (some (((100 * (sMt.wordOf v1)) + v1) - (sMt.start (sMt.wordOf v1)))))
def p_X7_end_b18 (n : Nat) (sMp : MpS) (sMt : MtS) (v1 : Int) (z18 : Int × Int) : Option ((Int × Int) ⊕ ((Int × MtS) ⊕ (Unit))) :=
  ck z18.2 (ck (sMt.many 0) (if z18.2 < sMt.many 0 then (p_X7_stands n sMp sMt z18.2 0 sMp.padMany).bind fun r19 => ck r19 (if r19 = 0 then some (.inl (z18.1, z18.2 + 1)) else ck z18.1 (ck v1 (if z18.1 = v1 then (p_X7_asEnd sMt ((z18.2 + sMp.padMany) - 1)).bind fun r33 => some (.inr (.inl (r33, sMt))) else some (.inl (z18.1 + 1, z18.2 + 1))))) else some (.inr (.inr ()))))
def p_X7_end (n : Nat) (sMv : MvS) (sMp : MpS) (sMt : MtS) (v1 : Int) : Option (Int × MtS) :=
  (p_X7_isPattern n sMp).bind fun r1 => ck r1 (if r1 = 0 then some ((-3), sMt) else (p_X7_layPresent n sMv sMt).bind fun r8 => (lp (p_X7_end_b18 n sMp r8 v1) n (0, 0)).bind fun ex18 => Sum.elim (fun q18 => some q18) (fun e18 => some ((-6), r8)) ex18)
def p_X7_isFactor_b2 (n : Nat) (sMp : MpS) (sMt : MtS) (v1 : Int) (v2 : Int) (z2 : Int) : Option ((Int) ⊕ ((Int) ⊕ (Unit))) :=
  ck z2 (ck (sMt.many 0) (if z2 < sMt.many 0 then (p_X7_stands n sMp sMt z2 v1 v2).bind fun r10 => ck r10 (if r10 = 0 then some (.inl (z2 + 1)) else some (.inr (.inl 1))) else some (.inr (.inr ()))))
def p_X7_isFactor (n : Nat) (sMp : MpS) (sMt : MtS) (v1 : Int) (v2 : Int) : Option (Int) :=
  (lp (p_X7_isFactor_b2 n sMp sMt v1 v2) n 0).bind fun ex2 => Sum.elim (fun q2 => some q2) (fun e2 => some 0) ex2
def p_X7_matches_b31 (n : Nat) (sMp : MpS) (sMt : MtS) (v1 : Int) (z31 : Int) : Option ((Int) ⊕ (Int)) :=
  ck z31 (if 0 < z31 then (p_X7_isFactor n sMp sMt (v1 - z31) z31).bind fun r23 => ck r23 (if r23 = 0 then some (.inl (z31 + (-1))) else some (.inr z31)) else some (.inr z31))
def p_X7_matches (n : Nat) (sMv : MvS) (sMp : MpS) (sMt : MtS) (v1 : Int) : Option (Int × MtS) :=
  (p_X7_isPattern n sMp).bind fun r1 => ck r1 (if r1 = 0 then some ((-3), sMt) else (p_X7_in v1 1 sMp.padMany).bind fun r8 => ck r8 (if r8 = 0 then some ((-2), sMt) else (p_X7_layPresent n sMv sMt).bind fun r15 => (lp (p_X7_matches_b31 n sMp r15 v1) n v1).bind fun ex31 => some (ex31, r15)))
def p_X7_parts_b33 (n : Nat) (sMp : MpS) (sMt : MtS) (v2 : Int) (z33 : Int) : Option ((Int) ⊕ (Int)) :=
  ck z33 (if 0 < z33 then (p_X7_isFactor n sMp sMt v2 z33).bind fun r23 => ck r23 (if r23 = 0 then some (.inl (z33 + (-1))) else some (.inr z33)) else some (.inr z33))
def p_X7_parts_b18 (n : Nat) (sMp : MpS) (sMt : MtS) (z18 : Int × Int) : Option ((Int × Int) ⊕ ((Int × MtS) ⊕ (Int))) :=
  ck z18.2 (ck sMp.padMany (if z18.2 < sMp.padMany then (lp (p_X7_parts_b33 n sMp sMt z18.2) n (sMp.padMany - z18.2)).bind fun ex33 => ck ex33 (if ex33 = 0 then some (.inr (.inl ((-6), sMt))) else some (.inl (z18.1 + 1, z18.2 + ex33))) else some (.inr (.inr z18.1))))
def p_X7_parts (n : Nat) (sMv : MvS) (sMp : MpS) (sMt : MtS) : Option (Int × MtS) :=
  (p_X7_isPattern n sMp).bind fun r1 => ck r1 (if r1 = 0 then some ((-3), sMt) else (p_X7_layPresent n sMv sMt).bind fun r8 => (lp (p_X7_parts_b18 n sMp r8) n (0, 0)).bind fun ex18 => Sum.elim (fun q18 => some q18) (fun e18 => some (e18, r8)) ex18)
def p_X7_endsOf_b4 (n : Nat) (sMt : MtS) (sMs : MsS) (v2 : Int) (z4 : Int) : Option ((Int) ⊕ (Int)) :=
  ck z4 (ck (sMt.many 0) (if z4 < sMt.many 0 then ix z4 60 (ck (sMs.near z4) (ck v2 (if sMs.near z4 < v2 then some (.inr z4) else some (.inl (z4 + 1))))) else some (.inr z4)))
def p_X7_endsOf (n : Nat) (sMt : MtS) (sMs : MsS) (v1 : Int) (v2 : Int) : Option (Int) :=
  (lp (p_X7_endsOf_b4 n sMt sMs v2) n (v1 + 1)).bind fun ex4 => some (ex4 - v1)
def p_X7_factors_j86 (n : Nat) (sMt : MtS) (sMs : MsS) (v1 : Int) (v4 : Int) (v5_86 : Int) (t0_86 : Int) : Option ((Int × Int) ⊕ (Int)) :=
  (p_X7_endsOf n sMt sMs v4 v5_86).bind fun r33 => ck r33 (ck v1 (if r33 < v1 then some (.inl (t0_86 + 0, v5_86 + 1)) else some (.inl (t0_86 + 1, v5_86 + 1))))
def p_X7_factors_b58 (n : Nat) (sMt : MtS) (sMs : MsS) (v1 : Int) (v2 : Int) (v4 : Int) (z58 : Int × Int) : Option ((Int × Int) ⊕ (Int)) :=
  ix v4 60 ((p_X7_rest sMt 0 (sMs.sorted v4)).bind fun r44 => ck z58.2 (ck r44 (if r44 < z58.2 then some (.inr z58.1) else ck v2 (if v2 = 0 then p_X7_factors_j86 n sMt sMs v1 v4 z58.2 z58.1 else if z58.2 = v2 then p_X7_factors_j86 n sMt sMs v1 v4 z58.2 z58.1 else some (.inl (z58.1 + 0, z58.2 + 1))))))
def p_X7_factors_b36 (n : Nat) (sMt : MtS) (sMs : MsS) (v1 : Int) (v2 : Int) (z36 : Int × Int) : Option ((Int × Int) ⊕ (Int)) :=
  ck z36.2 (ck (sMt.many 0) (if z36.2 < sMt.many 0 then ix z36.2 60 ((lp (p_X7_factors_b58 n sMt sMs v1 v2 z36.2) n (z36.1, (sMs.near z36.2) + 1)).bind fun ex58 => some (.inl (ex58, z36.2 + 1))) else some (.inr z36.1)))
def p_X7_factors (n : Nat) (sMv : MvS) (sMt : MtS) (sMs : MsS) (v1 : Int) (v2 : Int) : Option (Int × MtS × MsS) :=
  (p_X7_in v1 1 60).bind fun r1 => ck r1 (if r1 = 0 then some ((-2), sMt, sMs) else (p_X7_in v2 0 60).bind fun r9 => ck r9 (if r9 = 0 then some ((-2), sMt, sMs) else (p_X7_layPresent n sMv sMt).bind fun r16 => (p_X7_sort n r16 sMs).bind fun r18 => (lp (p_X7_factors_b36 n r16 r18 v1 v2) n (0, 0)).bind fun ex36 => some (ex36, r16, r18)))
def p_X7_write_b2 (n : Nat) (sMt : MtS) (v1 : Int) (v2 : Int) (z2 : Int × Row) : Option ((Int × Row) ⊕ (Row)) :=
  ck z2.1 (ck v2 (if z2.1 < v2 then (p_X7_letterAt sMt (v1 + z2.1)).bind fun r9 => ix z2.1 60 (some (.inl (z2.1 + 1, up z2.2 z2.1 (97 + r9)))) else some (.inr z2.2)))
def p_X7_write (n : Nat) (sMp : MpS) (sMt : MtS) (v1 : Int) (v2 : Int) : Option (Int × MpS) :=
  (lp (p_X7_write_b2 n sMt v1 v2) n (0, sMp.pad)).bind fun ex2 => some (v2, (ex2, v2))
def p_X7_kth_b48 (n : Nat) (sMt : MtS) (sMs : MsS) (v1 : Int) (v2 : Int) (v4 : Int) (z48 : Int × Int × MpS) : Option ((Int × Int × MpS) ⊕ ((Int × MpS × MtS × MsS) ⊕ (Int × MpS))) :=
  ix v4 60 ((p_X7_rest sMt 0 (sMs.sorted v4)).bind fun r25 => ck z48.2.1 (ck r25 (if r25 < z48.2.1 then some (.inr (.inr (z48.1, z48.2.2))) else (p_X7_endsOf n sMt sMs v4 z48.2.1).bind fun r34 => ck r34 (ck v1 (if r34 < v1 then some (.inl (z48.1, z48.2.1 + 1, z48.2.2)) else ck z48.1 (ck v2 (if z48.1 = v2 then (p_X7_write n z48.2.2 sMt (sMs.sorted v4) z48.2.1).bind fun r52 => some (.inr (.inl (r52.1, r52.2, sMt, sMs))) else some (.inl (z48.1 + 1, z48.2.1 + 1, z48.2.2)))))))))
def p_X7_kth_b26 (n : Nat) (sMt : MtS) (sMs : MsS) (v1 : Int) (v2 : Int) (z26 : Int × Int × MpS) : Option ((Int × Int × MpS) ⊕ ((Int × MpS × MtS × MsS) ⊕ (MpS))) :=
  ck z26.2.1 (ck (sMt.many 0) (if z26.2.1 < sMt.many 0 then ix z26.2.1 60 ((lp (p_X7_kth_b48 n sMt sMs v1 v2 z26.2.1) n (z26.1, (sMs.near z26.2.1) + 1, z26.2.2)).bind fun ex48 => Sum.elim (fun q48 => some (.inr (.inl q48))) (fun e48 => some (.inl (e48.1, z26.2.1 + 1, e48.2))) ex48) else some (.inr (.inr z26.2.2))))
def p_X7_kth (n : Nat) (sMv : MvS) (sMp : MpS) (sMt : MtS) (sMs : MsS) (v1 : Int) (v2 : Int) : Option (Int × MpS × MtS × MsS) :=
  (p_X7_in v1 1 60).bind fun r1 => ck r1 (if r1 = 0 then some ((-2), sMp, sMt, sMs) else (p_X7_layPresent n sMv sMt).bind fun r8 => (p_X7_sort n r8 sMs).bind fun r10 => (lp (p_X7_kth_b26 n r8 r10 v1 v2) n (0, 0, sMp)).bind fun ex26 => Sum.elim (fun q26 => some q26) (fun e26 => some ((-6), e26, r8, r10)) ex26)
def p_X7_comesBefore_j53 (n : Nat) (sMp : MpS) (v2_53 : Int) (v3_53 : Int) : Option (Int) :=
  ck v3_53 (ck v2_53 (if v3_53 = v2_53 then ck sMp.padMany (if v2_53 < sMp.padMany then some 1 else some 0) else some 0))
def p_X7_comesBefore_b2 (n : Nat) (sMp : MpS) (sMt : MtS) (v1 : Int) (v2 : Int) (z2 : Int) : Option ((Int) ⊕ (Int)) :=
  ck z2 (ck v2 (if z2 < v2 then ck sMp.padMany (if z2 < sMp.padMany then (p_X7_letterAt sMt (v1 + z2)).bind fun r30 => ix z2 60 (ck r30 (ck ((sMp.pad z2) - 97) (if r30 = (sMp.pad z2) - 97 then some (.inl (z2 + 1)) else some (.inr z2)))) else some (.inr z2)) else some (.inr z2)))
def p_X7_comesBefore (n : Nat) (sMp : MpS) (sMt : MtS) (v1 : Int) (v2 : Int) : Option (Int) :=
  (lp (p_X7_comesBefore_b2 n sMp sMt v1 v2) n 0).bind fun ex2 => ck ex2 (ck v2 (if ex2 = v2 then p_X7_comesBefore_j53 n sMp v2 ex2 else ck sMp.padMany (if ex2 = sMp.padMany then p_X7_comesBefore_j53 n sMp v2 ex2 else (p_X7_letterAt sMt (v1 + ex2)).bind fun r82 => ix ex2 60 (ck r82 (ck ((sMp.pad ex2) - 97) (if r82 < (sMp.pad ex2) - 97 then some 1 else some 0))))))
def p_X7_before_b41 (n : Nat) (sMp : MpS) (sMt : MtS) (sMs : MsS) (v2 : Int) (z41 : Int × Int) : Option ((Int × Int) ⊕ (Int)) :=
  ix v2 60 ((p_X7_rest sMt 0 (sMs.sorted v2)).bind fun r26 => ck z41.2 (ck r26 (if r26 < z41.2 then some (.inr z41.1) else (p_X7_comesBefore n sMp sMt (sMs.sorted v2) z41.2).bind fun r38 => ck r38 (if r38 = 0 then some (.inl (z41.1 + 0, z41.2 + 1)) else some (.inl (z41.1 + 1, z41.2 + 1))))))
def p_X7_before_b22 (n : Nat) (sMp : MpS) (sMt : MtS) (sMs : MsS) (z22 : Int × Int) : Option ((Int × Int) ⊕ (Int)) :=
  ck z22.2 (ck (sMt.many 0) (if z22.2 < sMt.many 0 then ix z22.2 60 ((lp (p_X7_before_b41 n sMp sMt sMs z22.2) n (z22.1, (sMs.near z22.2) + 1)).bind fun ex41 => some (.inl (ex41, z22.2 + 1))) else some (.inr z22.1)))
def p_X7_before (n : Nat) (sMv : MvS) (sMp : MpS) (sMt : MtS) (sMs : MsS) : Option (Int × MtS × MsS) :=
  (p_X7_isPattern n sMp).bind fun r1 => ck r1 (if r1 = 0 then some ((-3), sMt, sMs) else (p_X7_layPresent n sMv sMt).bind fun r8 => (p_X7_sort n r8 sMs).bind fun r10 => (lp (p_X7_before_b22 n sMp r8 r10) n (0, 0)).bind fun ex22 => some (ex22, r8, r10))
def p_X7_isClass (n : Nat) (sMv : MvS) (sMt : MtS) (sMc : McS) (v1 : Int) : Option (Int × MtS × McS) :=
  (p_X7_layPresent n sMv sMt).bind fun r1 => (p_X7_layClasses n r1 sMc).bind fun r3 => (p_X7_in v1 0 (r3.classes - 1)).bind fun r5 => bk r5 (some (r5, r1, r3))
def p_X7_firstOf (sMc : McS) (v1 : Int) : Option (Int) :=
  ix v1 200 (some (((sMc.classLast v1) - (sMc.classLong v1)) + 1))
def p_X7_wordsOfClass_b4 (n : Nat) (sMt : MtS) (sMc : McS) (v1 : Int) (z4 : Int × Int) : Option ((Int × Int) ⊕ (Int)) :=
  ck z4.2 (ck (sMt.many 0) (if z4.2 < sMt.many 0 then (p_X7_firstOf sMc v1).bind fun r11 => ix v1 200 ((p_X7_isSame n sMt r11 z4.2 (sMc.classLong v1)).bind fun r15 => ck r15 (if r15 = 0 then some (.inl (bior z4.1 0, z4.2 + 1)) else ix z4.2 120 (some (.inl (bior z4.1 (bishl 1 (sMt.wordOf z4.2)), z4.2 + 1))))) else some (.inr z4.1)))
def p_X7_wordsOfClass (n : Nat) (sMt : MtS) (sMc : McS) (v1 : Int) : Option (Int) :=
  (lp (p_X7_wordsOfClass_b4 n sMt sMc v1) n (0, 0)).bind fun ex4 => some ex4
def p_X7_nextOf_b5 (n : Nat) (sMt : MtS) (v1 : Int) (v2 : Int) (z5 : Int × Int) : Option ((Int × Int) ⊕ (Int)) :=
  ck z5.2 (ck (sMt.many 0) (if z5.2 < sMt.many 0 then (p_X7_isSame n sMt v1 z5.2 v2).bind fun r11 => ck r11 (if r11 = 0 then some (.inl (bior z5.1 0, z5.2 + 1)) else (p_X7_rest sMt 0 z5.2).bind fun r18 => ck r18 (ck v2 (if v2 < r18 then (p_X7_letterAt sMt (z5.2 + v2)).bind fun r27 => some (.inl (bior z5.1 (bishl 1 r27), z5.2 + 1)) else some (.inl (bior z5.1 0, z5.2 + 1))))) else some (.inr z5.1)))
def p_X7_nextOf (n : Nat) (sMt : MtS) (v1 : Int) (v2 : Int) : Option (Int) :=
  (lp (p_X7_nextOf_b5 n sMt v1 v2) n (0, 0)).bind fun ex5 => some ex5
def p_X7_linkOf (n : Nat) (sMt : MtS) (sMc : McS) (v1 : Int) : Option (Int) :=
  ix v1 200 (ck ((sMc.classShort v1) - 1) (if (sMc.classShort v1) - 1 = 0 then some (-6) else (p_X7_classAt n sMt sMc (((sMc.classLast v1) - ((sMc.classShort v1) - 1)) + 1) ((sMc.classShort v1) - 1)).bind fun r10 => some r10))
def p_X7_group (n : Nat) (sMv : MvS) (sMt : MtS) (sMc : McS) (v1 : Int) (v2 : Int) : Option (Int × MtS × McS) :=
  (p_X7_isClass n sMv sMt sMc v1).bind fun r1 => ck r1.1 (if r1.1 = 0 then some ((-1), r1.2.1, r1.2.2) else ck v2 (if v2 = 0 then ix v1 200 (some (r1.2.2.classLong v1, r1.2.1, r1.2.2)) else if v2 = 1 then ix v1 200 (some (r1.2.2.classShort v1, r1.2.1, r1.2.2)) else if v2 = 2 then ix v1 200 (some (r1.2.2.classEnds v1, r1.2.1, r1.2.2)) else if v2 = 3 then (p_X7_linkOf n r1.2.1 r1.2.2 v1).bind fun r31 => some (r31, r1.2.1, r1.2.2) else if v2 = 4 then (p_X7_firstOf r1.2.2 v1).bind fun r37 => ix v1 200 ((p_X7_nextOf n r1.2.1 r37 (r1.2.2.classLong v1)).bind fun r41 => some (r41, r1.2.1, r1.2.2)) else if v2 = 5 then (p_X7_wordsOfClass n r1.2.1 r1.2.2 v1).bind fun r47 => some (r47, r1.2.1, r1.2.2) else if v2 = 6 then ix v1 200 ((p_X7_asEnd r1.2.1 (r1.2.2.classLast v1)).bind fun r55 => some (r55, r1.2.1, r1.2.2)) else some ((-2), r1.2.1, r1.2.2)))
def p_X7_spell (n : Nat) (sMv : MvS) (sMp : MpS) (sMt : MtS) (sMc : McS) (v1 : Int) : Option (Int × MpS × MtS × McS) :=
  (p_X7_isClass n sMv sMt sMc v1).bind fun r1 => ck r1.1 (if r1.1 = 0 then some ((-1), sMp, r1.2.1, r1.2.2) else (p_X7_firstOf r1.2.2 v1).bind fun r9 => ix v1 200 ((p_X7_write n sMp r1.2.1 r9 (r1.2.2.classLong v1)).bind fun r13 => some (r13.1, r13.2, r1.2.1, r1.2.2)))
def p_X7_step_j106 (n : Nat) (sMt : MtS) (sMc : McS) (v3 : Int) (v4_106 : Int) (t0_106 : Int) : Option ((Int) ⊕ ((Int × MtS × McS) ⊕ (Unit))) :=
  ck t0_106 (if t0_106 = 0 then some (.inl (v4_106 + 1)) else (p_X7_classAt n sMt sMc v4_106 (v3 + 1)).bind fun r7 => some (.inr (.inl (r7, sMt, sMc))))
def p_X7_step_j105 (n : Nat) (sMt : MtS) (sMc : McS) (v3 : Int) (v4_105 : Int) : Option ((Int) ⊕ ((Int × MtS × McS) ⊕ (Unit))) :=
  p_X7_step_j106 n sMt sMc v3 v4_105 0
def p_X7_step_j101 (n : Nat) (sMt : MtS) (sMc : McS) (v3 : Int) (v4_101 : Int) : Option ((Int) ⊕ ((Int × MtS × McS) ⊕ (Unit))) :=
  p_X7_step_j106 n sMt sMc v3 v4_101 1
def p_X7_step_b47 (n : Nat) (sMt : MtS) (sMc : McS) (v1 : Int) (v2 : Int) (v3 : Int) (z47 : Int) : Option ((Int) ⊕ ((Int × MtS × McS) ⊕ (Unit))) :=
  ck z47 (ck (sMt.many 0) (if z47 < sMt.many 0 then (p_X7_rest sMt 0 z47).bind fun r23 => ck r23 (ck v3 (if v3 < r23 then (p_X7_letterAt sMt (z47 + v3)).bind fun r32 => ck r32 (ck v2 (if r32 = v2 then ck v1 (if v1 = (-1) then p_X7_step_j101 n sMt sMc v3 z47 else (p_X7_firstOf sMc v1).bind fun r46 => (p_X7_isSame n sMt r46 z47 v3).bind fun r48 => ck r48 (if r48 = 0 then p_X7_step_j105 n sMt sMc v3 z47 else p_X7_step_j101 n sMt sMc v3 z47)) else p_X7_step_j105 n sMt sMc v3 z47)) else p_X7_step_j105 n sMt sMc v3 z47)) else some (.inr (.inr ()))))
def p_X7_step_j43 (n : Nat) (sMt_43 : MtS) (sMc_43 : McS) (v1_43 : Int) (v2_43 : Int) (t0_43 : Int) : Option (Int × MtS × McS) :=
  (lp (p_X7_step_b47 n sMt_43 sMc_43 v1_43 v2_43 t0_43) n 0).bind fun ex47 => Sum.elim (fun q47 => some q47) (fun e47 => some ((-6), sMt_43, sMc_43)) ex47
def p_X7_step_j15 (n : Nat) (sMt_15 : MtS) (sMc_15 : McS) (v1_15 : Int) (v2_15 : Int) : Option (Int × MtS × McS) :=
  (p_X7_in v2_15 0 7).bind fun r109 => ck r109 (if r109 = 0 then some ((-2), sMt_15, sMc_15) else ck v1_15 (if v1_15 = (-1) then p_X7_step_j43 n sMt_15 sMc_15 v1_15 v2_15 0 else ix v1_15 200 (p_X7_step_j43 n sMt_15 sMc_15 v1_15 v2_15 (sMc_15.classLong v1_15))))
def p_X7_step (n : Nat) (sMv : MvS) (sMt : MtS) (sMc : McS) (v1 : Int) (v2 : Int) : Option (Int × MtS × McS) :=
  (p_X7_isClass n sMv sMt sMc v1).bind fun r124 => ck r124.1 (if r124.1 = 0 then ck v1 (if v1 = (-1) then p_X7_step_j15 n r124.2.1 r124.2.2 v1 v2 else some ((-1), r124.2.1, r124.2.2)) else p_X7_step_j15 n r124.2.1 r124.2.2 v1 v2)
def p_X7_areWords (sMv : MvS) (v1 : Int) : Option (Int) :=
  ix sMv.present 400 ((p_X7_in v1 0 ((bishl 1 (sMv.wordMany sMv.present)) - 1)).bind fun r3 => bk r3 (some r3))
def p_X7_wordsOf_b5 (n : Nat) (sMt : MtS) (sMs : MsS) (v1 : Int) (v2 : Int) (z5 : Int × Int) : Option ((Int × Int) ⊕ (Int)) :=
  (p_X7_endsOf n sMt sMs v1 v2).bind fun r1 => ck z5.2 (ck (v1 + r1) (if z5.2 < v1 + r1 then ix z5.2 60 (ix (sMs.sorted z5.2) 120 (some (.inl (bior z5.1 (bishl 1 (sMt.wordOf (sMs.sorted z5.2))), z5.2 + 1)))) else some (.inr z5.1)))
def p_X7_wordsOf (n : Nat) (sMt : MtS) (sMs : MsS) (v1 : Int) (v2 : Int) : Option (Int) :=
  (lp (p_X7_wordsOf_b5 n sMt sMs v1 v2) n (0, v1)).bind fun ex5 => some ex5
def p_X7_sizeOf_b4 (n : Nat) (v0 : Int) (z4 : Int × Int) : Option ((Int × Int) ⊕ (Int)) :=
  ck z4.2 (if z4.2 < 8 then some (.inl (z4.1 + (biand (bishr v0 z4.2) 1), z4.2 + 1)) else some (.inr z4.1))
def p_X7_sizeOf (n : Nat) (v0 : Int) : Option (Int) :=
  (lp (p_X7_sizeOf_b4 n v0) n (0, 0)).bind fun ex4 => some ex4
def p_X7_common_b62 (n : Nat) (sMt : MtS) (sMs : MsS) (v1 : Int) (v2 : Int) (v5 : Int) (z62 : Int × Int × Int) : Option ((Int × Int × Int) ⊕ (Int × Int)) :=
  ix v5 60 ((p_X7_rest sMt 0 (sMs.sorted v5)).bind fun r33 => ck z62.2.2 (ck r33 (if r33 < z62.2.2 then some (.inr (z62.1, z62.2.1)) else ck z62.2.1 (if z62.2.1 < z62.2.2 then (p_X7_wordsOf n sMt sMs v5 z62.2.2).bind fun r48 => (p_X7_sizeOf n (biand r48 v1)).bind fun r50 => ck r50 (ck v2 (if r50 < v2 then some (.inl (z62.1, z62.2.1, z62.2.2 + 1)) else some (.inl (sMs.sorted v5, z62.2.2, z62.2.2 + 1)))) else some (.inl (z62.1, z62.2.1, z62.2.2 + 1))))))
def p_X7_common_b40 (n : Nat) (sMt : MtS) (sMs : MsS) (v1 : Int) (v2 : Int) (z40 : Int × Int × Int) : Option ((Int × Int × Int) ⊕ (Int × Int)) :=
  ck z40.2.2 (ck (sMt.many 0) (if z40.2.2 < sMt.many 0 then ix z40.2.2 60 ((lp (p_X7_common_b62 n sMt sMs v1 v2 z40.2.2) n (z40.1, z40.2.1, (sMs.near z40.2.2) + 1)).bind fun ex62 => some (.inl (ex62.1, ex62.2, z40.2.2 + 1))) else some (.inr (z40.1, z40.2.1))))
def p_X7_common (n : Nat) (sMv : MvS) (sMp : MpS) (sMt : MtS) (sMs : MsS) (v1 : Int) (v2 : Int) : Option (Int × MpS × MtS × MsS) :=
  (p_X7_areWords sMv v1).bind fun r1 => ck r1 (if r1 = 0 then some ((-1), sMp, sMt, sMs) else (p_X7_in v2 1 6).bind fun r8 => ck r8 (if r8 = 0 then some ((-2), sMp, sMt, sMs) else (p_X7_layPresent n sMv sMt).bind fun r15 => (p_X7_sort n r15 sMs).bind fun r17 => (lp (p_X7_common_b40 n r15 r17 v1 v2) n ((-6), 0, 0)).bind fun ex40 => ck ex40.1 (if ex40.1 < 0 then some ((-6), sMp, r15, r17) else (p_X7_write n sMp r15 ex40.1 ex40.2).bind fun r174 => some (r174.1, r174.2, r15, r17))))
def p_X7_unique_b56 (n : Nat) (sMt : MtS) (sMs : MsS) (v1 : Int) (v4 : Int) (z56 : Int × Int × Int) : Option ((Int × Int × Int) ⊕ (Int × Int)) :=
  ix v4 60 ((p_X7_rest sMt 0 (sMs.sorted v4)).bind fun r31 => ck z56.2.2 (ck r31 (if r31 < z56.2.2 then some (.inr (z56.1, z56.2.1)) else ck z56.2.1 (if z56.2.2 < z56.2.1 then (p_X7_wordsOf n sMt sMs v4 z56.2.2).bind fun r46 => ck r46 (ck v1 (if r46 = v1 then some (.inl (sMs.sorted v4, z56.2.2, z56.2.2 + 1)) else some (.inl (z56.1, z56.2.1, z56.2.2 + 1)))) else some (.inl (z56.1, z56.2.1, z56.2.2 + 1))))))
def p_X7_unique_b34 (n : Nat) (sMt : MtS) (sMs : MsS) (v1 : Int) (z34 : Int × Int × Int) : Option ((Int × Int × Int) ⊕ (Int × Int)) :=
  ck z34.2.2 (ck (sMt.many 0) (if z34.2.2 < sMt.many 0 then ix z34.2.2 60 ((lp (p_X7_unique_b56 n sMt sMs v1 z34.2.2) n (z34.1, z34.2.1, (sMs.near z34.2.2) + 1)).bind fun ex56 => some (.inl (ex56.1, ex56.2, z34.2.2 + 1))) else some (.inr (z34.1, z34.2.1))))
def p_X7_unique (n : Nat) (sMv : MvS) (sMp : MpS) (sMt : MtS) (sMs : MsS) (v1 : Int) : Option (Int × MpS × MtS × MsS) :=
  (p_X7_areWords sMv v1).bind fun r1 => ck r1 (if r1 = 0 then some ((-1), sMp, sMt, sMs) else ck v1 (if v1 = 0 then some ((-2), sMp, sMt, sMs) else (p_X7_layPresent n sMv sMt).bind fun r13 => (p_X7_sort n r13 sMs).bind fun r15 => (lp (p_X7_unique_b34 n r13 r15 v1) n ((-6), 61, 0)).bind fun ex34 => ck ex34.1 (if ex34.1 < 0 then some ((-6), sMp, r13, r15) else (p_X7_write n sMp r13 ex34.1 ex34.2).bind fun r164 => some (r164.1, r164.2, r13, r15))))
def p_X7_isTriedFactor_b31 (n : Nat) (sMt : MtS) (sMr : MrS) (v1 : Int) (v2 : Int) (z31 : Int × Int) : Option ((Int × Int) ⊕ (Int)) :=
  ck z31.2 (ck v1 (if z31.2 < v1 then ck z31.1 (if z31.1 = 0 then some (.inr z31.1) else (p_X7_letterAt sMt (v2 + z31.2)).bind fun r16 => ix z31.2 61 (ck r16 (ck (sMr z31.2) (if r16 = sMr z31.2 then some (.inl (1, z31.2 + 1)) else some (.inl (0, z31.2 + 1)))))) else some (.inr z31.1)))
def p_X7_isTriedFactor_j27 (n : Nat) (sMt : MtS) (sMr : MrS) (v1 : Int) (v2_27 : Int) (t0_27 : Int) : Option ((Int) ⊕ ((Int) ⊕ (Unit))) :=
  (lp (p_X7_isTriedFactor_b31 n sMt sMr v1 v2_27) n (t0_27, 0)).bind fun ex31 => ck ex31 (if ex31 = 0 then some (.inl (v2_27 + 1)) else some (.inr (.inl 1)))
def p_X7_isTriedFactor_b2 (n : Nat) (sMt : MtS) (sMr : MrS) (v1 : Int) (z2 : Int) : Option ((Int) ⊕ ((Int) ⊕ (Unit))) :=
  ck z2 (ck (sMt.many 0) (if z2 < sMt.many 0 then (p_X7_rest sMt 0 z2).bind fun r71 => ck r71 (ck v1 (if r71 < v1 then p_X7_isTriedFactor_j27 n sMt sMr v1 z2 0 else p_X7_isTriedFactor_j27 n sMt sMr v1 z2 1)) else some (.inr (.inr ()))))
def p_X7_isTriedFactor (n : Nat) (sMt : MtS) (sMr : MrS) (v1 : Int) : Option (Int) :=
  (lp (p_X7_isTriedFactor_b2 n sMt sMr v1) n 0).bind fun ex2 => Sum.elim (fun q2 => some q2) (fun e2 => some 0) ex2
def p_X7_nextTried_b4 (n : Nat) (v2 : Int) (z4 : Int × Row) : Option ((Int × Row) ⊕ (Int × Row)) :=
  ck z4.1 (if z4.1 < 0 then some (.inr (z4.1, z4.2)) else ix z4.1 61 (ck (z4.2 z4.1) (ck (v2 - 1) (if z4.2 z4.1 = v2 - 1 then some (.inl (z4.1 + (-1), up z4.2 z4.1 0)) else some (.inr (z4.1, z4.2))))))
def p_X7_nextTried (n : Nat) (sMr : MrS) (v1 : Int) (v2 : Int) : Option (Int × MrS) :=
  (lp (p_X7_nextTried_b4 n v2) n (v1 - 1, sMr)).bind fun ex4 => ck ex4.1 (if ex4.1 < 0 then some (0, ex4.2) else ix ex4.1 61 (some (1, up ex4.2 ex4.1 ((ex4.2 ex4.1) + 1))))
def p_X7_absent_b27 (n : Nat) (v2 : Int) (z27 : Int × Row) : Option ((Int × Row) ⊕ (Row)) :=
  ck z27.1 (ck v2 (if z27.1 < v2 then ix z27.1 61 (some (.inl (z27.1 + 1, up z27.2 z27.1 0))) else some (.inr z27.2)))
def p_X7_absent_b62 (n : Nat) (sMr : MrS) (v2 : Int) (z62 : Int × Row) : Option ((Int × Row) ⊕ (Row)) :=
  ck z62.1 (ck v2 (if z62.1 < v2 then ix z62.1 61 (ix z62.1 60 (some (.inl (z62.1 + 1, up z62.2 z62.1 (97 + (sMr z62.1)))))) else some (.inr z62.2)))
def p_X7_absent_b47 (n : Nat) (sMt : MtS) (v1 : Int) (v2 : Int) (z47 : Int × Row × Int × MrS) : Option ((Int × Row × Int × MrS) ⊕ ((Int × MpS × MtS × MrS) ⊕ (Row × Int × MrS))) :=
  ck z47.1 (if z47.1 = 0 then some (.inr (.inr (z47.2.1, z47.2.2.1, z47.2.2.2))) else (p_X7_isTriedFactor n sMt z47.2.2.2 v2).bind fun r42 => ck r42 (if r42 = 0 then (lp (p_X7_absent_b62 n z47.2.2.2 v2) n (0, z47.2.1)).bind fun ex62 => some (.inr (.inl (v2, (ex62, v2), sMt, z47.2.2.2))) else (p_X7_nextTried n z47.2.2.2 v2 v1).bind fun r49 => some (.inl (r49.1, z47.2.1, z47.2.2.1, r49.2))))
def p_X7_absent_b19 (n : Nat) (sMt : MtS) (v1 : Int) (z19 : Int × Row × Int × MrS) : Option ((Int × Row × Int × MrS) ⊕ ((Int × MpS × MtS × MrS) ⊕ (Row × Int × MrS))) :=
  ck z19.1 (if 60 < z19.1 then some (.inr (.inr (z19.2.1, z19.2.2.1, z19.2.2.2))) else (lp (p_X7_absent_b27 n z19.1) n (0, z19.2.2.2)).bind fun ex27 => (lp (p_X7_absent_b47 n sMt v1 z19.1) n (1, z19.2.1, z19.2.2.1, ex27)).bind fun ex47 => Sum.elim (fun q47 => some (.inr (.inl q47))) (fun e47 => some (.inl (z19.1 + 1, e47.1, e47.2.1, e47.2.2))) ex47)
def p_X7_absent (n : Nat) (sMv : MvS) (sMp : MpS) (sMt : MtS) (sMr : MrS) (v1 : Int) : Option (Int × MpS × MtS × MrS) :=
  (p_X7_in v1 1 8).bind fun r1 => ck r1 (if r1 = 0 then some ((-2), sMp, sMt, sMr) else (p_X7_layPresent n sMv sMt).bind fun r8 => (lp (p_X7_absent_b19 n r8 v1) n (1, sMp.pad, sMp.padMany, sMr)).bind fun ex19 => Sum.elim (fun q19 => some q19) (fun e19 => some ((-4), (e19.1, e19.2.1), r8, e19.2.2)) ex19)
def p_X7_lettersOfAll_b4 (n : Nat) (sMt : MtS) (z4 : Int × Int) : Option ((Int × Int) ⊕ (Int)) :=
  ck z4.2 (ck (sMt.many 0) (if z4.2 < sMt.many 0 then (p_X7_letterAt sMt z4.2).bind fun r11 => some (.inl (bior z4.1 (bishl 1 r11), z4.2 + 1)) else some (.inr z4.1)))
def p_X7_lettersOfAll (n : Nat) (sMt : MtS) : Option (Int) :=
  (lp (p_X7_lettersOfAll_b4 n sMt) n (0, 0)).bind fun ex4 => some ex4
def p_X7_minimal_j73 (n : Nat) (sMt : MtS) (sMs : MsS) (v2 : Int) (v1_73 : Int) (v3_73 : Int) (t0_73 : Int) : Option ((Int × Int) ⊕ (Int)) :=
  ix v2 60 ((p_X7_nextOf n sMt (sMs.sorted v2) v3_73).bind fun r20 => (p_X7_sizeOf n (biand t0_73 (bixor r20 (-1)))).bind fun r22 => some (.inl (v1_73 + r22, v3_73 + 1)))
def p_X7_minimal_b31 (n : Nat) (sMt : MtS) (sMs : MsS) (v2 : Int) (z31 : Int × Int) : Option ((Int × Int) ⊕ (Int)) :=
  ix v2 60 ((p_X7_rest sMt 0 (sMs.sorted v2)).bind fun r26 => ck z31.2 (ck r26 (if r26 < z31.2 then some (.inr z31.1) else if z31.2 = 1 then (p_X7_lettersOfAll n sMt).bind fun r43 => p_X7_minimal_j73 n sMt sMs v2 z31.1 z31.2 r43 else (p_X7_nextOf n sMt ((sMs.sorted v2) + 1) (z31.2 - 1)).bind fun r41 => p_X7_minimal_j73 n sMt sMs v2 z31.1 z31.2 r41)))
def p_X7_minimal_b12 (n : Nat) (sMt : MtS) (sMs : MsS) (z12 : Int × Int) : Option ((Int × Int) ⊕ (Int)) :=
  ck z12.2 (ck (sMt.many 0) (if z12.2 < sMt.many 0 then ix z12.2 60 ((lp (p_X7_minimal_b31 n sMt sMs z12.2) n (z12.1, (sMs.near z12.2) + 1)).bind fun ex31 => some (.inl (ex31, z12.2 + 1))) else some (.inr z12.1)))
def p_X7_minimal (n : Nat) (sMv : MvS) (sMt : MtS) (sMs : MsS) : Option (Int × MtS × MsS) :=
  (p_X7_layPresent n sMv sMt).bind fun r1 => (p_X7_sort n r1 sMs).bind fun r3 => (lp (p_X7_minimal_b12 n r1 r3) n (0, 0)).bind fun ex12 => some (ex12, r1, r3)
def p_X7_allSteps_b10 (n : Nat) (sMt : MtS) (sMc : McS) (z10 : Int × Int) : Option ((Int × Int) ⊕ (Int)) :=
  ck z10.2 (ck sMc.classes (if z10.2 < sMc.classes then (p_X7_firstOf sMc z10.2).bind fun r13 => ix z10.2 200 ((p_X7_nextOf n sMt r13 (sMc.classLong z10.2)).bind fun r17 => (p_X7_sizeOf n r17).bind fun r19 => some (.inl (z10.1 + r19, z10.2 + 1))) else some (.inr z10.1)))
def p_X7_allSteps (n : Nat) (sMt : MtS) (sMc : McS) : Option (Int) :=
  (p_X7_lettersOfAll n sMt).bind fun r1 => (p_X7_sizeOf n r1).bind fun r3 => (lp (p_X7_allSteps_b10 n sMt sMc) n (r3, 0)).bind fun ex10 => some ex10
def p_X7_longestTwice_b4 (n : Nat) (sMt : MtS) (sMs : MsS) (z4 : Int × Int) : Option ((Int × Int) ⊕ (Int)) :=
  ck z4.2 (ck (sMt.many 0) (if z4.2 < sMt.many 0 then ix z4.2 60 (ck (sMs.near z4.2) (ck z4.1 (if z4.1 < sMs.near z4.2 then some (.inl (sMs.near z4.2, z4.2 + 1)) else some (.inl (z4.1, z4.2 + 1))))) else some (.inr z4.1)))
def p_X7_longestTwice (n : Nat) (sMt : MtS) (sMs : MsS) : Option (Int) :=
  (lp (p_X7_longestTwice_b4 n sMt sMs) n (0, 0)).bind fun ex4 => some ex4
def p_X7_count (n : Nat) (sMv : MvS) (sMt : MtS) (sMs : MsS) (sMc : McS) (v1 : Int) : Option (Int × MtS × MsS × McS) :=
  (p_X7_in v1 0 6).bind fun r1 => ck r1 (if r1 = 0 then some ((-2), sMt, sMs, sMc) else (p_X7_layPresent n sMv sMt).bind fun r8 => (p_X7_sort n r8 sMs).bind fun r10 => ck v1 (if v1 = 0 then some (sMv.present, r8, r10, sMc) else if v1 = 1 then some (sMv.versions, r8, r10, sMc) else if v1 = 2 then ix sMv.present 400 (some (sMv.wordMany sMv.present, r8, r10, sMc)) else if v1 = 3 then ix sMv.present 400 (some (sMv.letterMany sMv.present, r8, r10, sMc)) else if v1 = 4 then (p_X7_layClasses n r8 sMc).bind fun r37 => some (r37.classes, r8, r10, r37) else if v1 = 5 then (p_X7_layClasses n r8 sMc).bind fun r43 => (p_X7_allSteps n r8 r43).bind fun r45 => some (r45, r8, r10, r43) else (p_X7_longestTwice n r8 r10).bind fun r48 => some (r48, r8, r10, sMc)))
