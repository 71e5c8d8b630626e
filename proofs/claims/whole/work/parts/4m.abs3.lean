/-! absent, the outer loop -/
section AD2
variable {n : Nat} {H : HisS} {V : MvS} {pr : Int} {T Q : TxtS} {m : MtS} {P : PadS} {M : MpS} {r : MrS}
theorem s_absent (hn : 1000 ≤ n) (h : HR H V pr) (hP : PR P M) (hT : TxI H T) {v1 : Int} (h1 : InR v1) : Sim (p_X6_absent n pr H P T Q v1) (p_X7_absent n V M m r v1) (fun r s => r.1 = s.1 ∧ PR r.2.1 s.2.1 ∧ TxI H r.2.2.1) := by
  unfold p_X6_absent p_X7_absent
  rw [e_in h1 (by decide) (by decide), so_bd]
  unfold InR at h1
  rw [ck_w (x := v1) h1]
  by_cases g : 1 ≤ v1 ∧ v1 ≤ 8
  · rw [if_neg (c := v1 < 1) (by omega), if_neg (c := 8 < v1) (by omega), if_pos g, ck_w (x := 1) (by omega), if_neg (c := (1 : Int) = 0) (by omega)]
    refine sim_l (e_show hn h hT) ?_
    rintro T' ⟨t1, t2, t3, _⟩
    refine sim_r (e_layP hn h) ?_
    rintro m' ⟨m1, _⟩
    have main : Sim (lp (p_X6_absent_b20 n T' v1) n (1, P, Q)) (lp (p_X7_absent_b19 n m' v1) n (1, M.pad, M.padMany, r)) (abQ T' m' P M) := by
      refine lp_sim (fun z w => z.1 = w.1 ∧ (1 ≤ z.1 ∧ z.1 ≤ 61) ∧ z.2.1 = P ∧ w.2.1 = M.pad ∧ w.2.2.1 = M.padMany) (abQ T' m' P M) (fun z => 61 - z.1) ?_ n n _ _ ⟨rfl, by dsimp only; omega, rfl, rfl, rfl⟩ (by dsimp only; omega) (by dsimp only; omega) (by omega) (by omega)
      rintro ⟨L, P0, Q0⟩ ⟨L', pd, pc, r0⟩ ⟨a1, a2, a3, a4, a5⟩
      dsimp only at a1 a2 a3 a4 a5 ⊢
      subst a1 a3 a4 a5
      unfold p_X6_absent_b20 p_X7_absent_b19
      dsimp only
      rw [ck_w (x := L) (by omega), ck_w (x := L) (by omega)]
      by_cases w : 60 < L
      · rw [if_pos w, if_pos w]
        exact Or.inr ⟨_, _, rfl, rfl, rfl, rfl, rfl⟩
      · rw [if_neg w, if_neg w]
        obtain ⟨Q1, q1, q2, q3⟩ := e_first hn (Q := Q0) (L := L) (by omega)
        have lz : Ok (lp (p_X7_absent_b27 n L) n (0, r0)) (fun A => ∀ i, 0 ≤ i → i < L → A i = 0) := by
          refine ok_lpJ (fun z => (0 ≤ z.1 ∧ z.1 ≤ L) ∧ ∀ i, 0 ≤ i → i < z.1 → z.2 i = 0) (fun z => L - z.1) ?_ n _ ⟨by dsimp only; omega, fun i a d => by dsimp only at d; omega⟩ (by dsimp only; omega)
          rintro ⟨i, A⟩ ⟨hi, hA⟩
          dsimp only at hi hA ⊢
          refine ⟨by omega, ?_⟩
          unfold p_X7_absent_b27
          dsimp only
          rw [ck_w (by omega), ck_w (by omega)]
          refine ok_ite (fun d => ?_) (fun d => ok_so (fun j a w => hA j a (by omega)))
          rw [ix_of (by omega)]
          refine ok_so ⟨⟨by dsimp only; omega, fun j a w => ?_⟩, by dsimp only; omega⟩
          dsimp only at w ⊢
          by_cases u : j = i
          · rw [u, up_s]
          · rw [up_n _ _ u]; exact hA j a (by omega)
        obtain ⟨A, b1, b2⟩ := lz
        rw [q1, so_bd, b1, so_bd]
        obtain ⟨x1, y1, z1, z2, z3⟩ := s_abIn hn t1 m1 (P := P0) (M := M) (b := v1) (L := L) (Q := Q1) (r := A) g (by omega) q2 (fun i a d => ⟨q3 i a d, b2 i a d⟩)
        rw [z1, so_bd, z2, so_bd]
        rcases x1 with x1 | x1
        · rcases y1 with y1 | y1
          · exact Or.inr ⟨_, _, rfl, rfl, z3⟩
          · exact z3.elim
        · rcases y1 with y1 | y1
          · exact z3.elim
          · obtain ⟨c1, c2, c3⟩ := z3
            exact Or.inl ⟨_, _, rfl, rfl, ⟨rfl, by dsimp only; omega, c1, c2, c3⟩, by dsimp only; omega, by omega⟩
    obtain ⟨x1, y1, z1, z2, z3⟩ := main
    rw [z1, so_bd, z2, so_bd]
    rcases x1 with x1 | x1
    · rcases y1 with y1 | y1
      · obtain ⟨c1, c2, c3⟩ := z3
        refine sim_so ⟨c1, c2, ?_⟩
        rw [c3]; exact t3
      · exact z3.elim
    · rcases y1 with y1 | y1
      · exact z3.elim
      · obtain ⟨c1, c2, c3⟩ := z3
        refine sim_so ⟨rfl, ?_, t3⟩
        show PR x1.1 (y1.1, y1.2.1)
        rw [c1, c2, c3]; exact hP
  · rw [if_neg (c := 1 ≤ v1 ∧ v1 ≤ 8) g, ck_w (x := 0) (by omega), if_pos (c := (0 : Int) = 0) rfl]
    by_cases a : v1 < 1
    · rw [if_pos a]
      exact sim_so ⟨rfl, hP, hT⟩
    · rw [if_neg a, if_pos (by omega)]
      exact sim_so ⟨rfl, hP, hT⟩
end AD2
