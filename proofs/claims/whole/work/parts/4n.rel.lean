/-! what holds between the calls -/
def Rel (pr : Int) (H : HisS) (P : PadS) (T : TxtS) (C : ClsS) (B : BegS) (U W : TxtS) (V : MvS) (M : MpS) : Prop := HR H V pr ∧ PR P M ∧ TxI H T ∧ ClI H C ∧ BgI H B ∧ TxI H U ∧ TxI H W
theorem Rel_ext {pr pr' : Int} {H H' : HisS} {P P' : PadS} {T : TxtS} {C : ClsS} {B : BegS} {U W : TxtS} {V V' : MvS} {M M' : MpS} (h : Rel pr H P T C B U W V M) (k : HR H' V' pr') (e : Ext H H') (p : PR P' M') : Rel pr' H' P' T C B U W V' M' := by
  obtain ⟨h1, h2, h3, h4, h5, h6, h7⟩ := h
  exact ⟨k, p, TxI_ext h1.1 k.1 e h3, ClI_ext h1.1 k.1 e h4, BgI_ext h1.1 k.1 e h5, TxI_ext h1.1 k.1 e h6, TxI_ext h1.1 k.1 e h7⟩
theorem TxI_m {H : HisS} {T : TxtS} (h : HH H) (e : T.version = -1) : TxI H T := ⟨by have := h.1; omega, fun q => by omega⟩
theorem ClI_m {H : HisS} {C : ClsS} (h : HH H) (e : C.version = -1) : ClI H C := ⟨by have := h.1; omega, fun q => by omega⟩
theorem BgI_m {H : HisS} {B : BegS} (h : HH H) (e : B.version = -1) : BgI H B := ⟨by have := h.1; omega, fun q => by omega⟩
