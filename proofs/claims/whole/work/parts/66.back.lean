/-! back -/
theorem s_back {R M : Nat → Nat → Int32} (h : Inv R M) : (d_X6_back R).1 = (d_X7_back M).1 ∧ Inv (d_X6_back R).2 (d_X7_back M).2 := by
  have h' := h
  obtain ⟨T, C, hT, hC, t1, c1, k1, hl, hnow, hlaid, htr, hp, hk, hf⟩ := h'
  have hk' := hk
  obtain ⟨m, hm, p1, p2, p3, p4, p5, p6⟩ := hk'
  have x1 : R 177 1 = nI m := p1
  by_cases g0 : m = 0
  · subst g0
    have e6 : d_X6_back R = (-2, R) := by rw [d_X6_back]; exact if_pos (by rw [x1, nI_0])
    have e7 : d_X7_back M = (-2, M) := by rw [d_X7_back]; exact if_pos (by rw [p2, nI_0])
    rw [e6, e7]; exact ⟨rfl, h⟩
  · obtain ⟨w, hw2, hw⟩ := p3 (m - 1) (by omega)
    have c0 : (nI m).toNatClampNeg = m := nI_clamp (by omega)
    have ht := take_eq (s := shf R 177) (r := shf R 22) (N := 2) (by omega) hm (by omega) p1 hw hw2
    have hsh := take_shelf hT hk (by omega) p1 hm (by omega)
    generalize hS : pt (shf R 177) 0 1 (nI (m - 1)) = S at ht hsh
    have hriv : RS T C (M 5) (M 0 12) (shf S (2 + 15 * w)) (fun k => M 10 (64 * (m - 1) + k)) := by
      refine RS_to hT (p6 (m - 1) w (by omega) hw2 hw) (fun k hk => ?_)
      show S (2 + 15 * w + k) = _
      rw [← hS, pt_k (by omega)]; rfl
    have hcp := RS_copy (r := shf R 22) hT hriv (RS_sp hnow)
    generalize hr : d_X3_copy (shf R 22) (shf S (2 + 15 * w)) = r' at ht hcp
    have e6 : d_X6_back R = (S 0 1, pt (spl (spl R 177 32 S) 22 15 r') 55 1 0) := by
      rw [d_X6_back]; exact (if_neg (by rw [x1]; exact nI_ne0 (by omega) (by omega))).trans (lt_eq ht.symm)
    obtain ⟨q1, q2⟩ := mcopy_at (A := shf (pt M 0 20 (nI (m - 1))) 10) (B := shf (pt M 0 20 (nI (m - 1))) 6) (p := 64 * (m - 1)) (q := 0) (la := 128) (lb := 64) (by omega) (by omega)
    rw [nI_0] at q1 q2
    generalize hu : d_X7_copy (shf (pt M 0 20 (nI (m - 1))) 10) (shf (pt M 0 20 (nI (m - 1))) 6) 128 64 (nI (64 * (m - 1))) 0 = u at q1 q2
    have e7 : d_X7_back M = (nI (m - 1), pt (spl (pt M 0 20 (nI (m - 1))) 6 1 u) 0 18 0) := by
      rw [d_X7_back, p2, c0]; exact (if_neg (nI_ne0 (by omega) (by omega))).trans (lt_eq hu.symm)
    rw [e6, e7]
    dsimp only
    have s0 : S 0 1 = nI (m - 1) := by rw [← hS, pt_eq, up_e]
    have er : ∀ q, ¬ (22 ≤ q ∧ q < 37) → ¬ (177 ≤ q ∧ q < 209) → q ≠ 55 → pt (spl (spl R 177 32 S) 22 15 r') 55 1 0 q = R q := fun q z1 z2 z3 => by rw [pt_k z3, spl_out (by omega), spl_out (by omega)]
    have em : ∀ q, q ≠ 0 → q ≠ 6 → pt (spl (pt M 0 20 (nI (m - 1))) 6 1 u) 0 18 0 q = M q := fun q z1 z2 => by rw [pt_k z1, spl_out (by omega), pt_k z1]
    have e0 : ∀ j, j ≠ 18 → j ≠ 20 → pt (spl (pt M 0 20 (nI (m - 1))) 6 1 u) 0 18 0 0 j = M 0 j := fun j z z' => by rw [pt_eq, up_o z, spl_out (by omega), pt_eq, up_o z']
    have e18 : pt (spl (pt M 0 20 (nI (m - 1))) 6 1 u) 0 18 0 0 18 = 0 := by rw [pt_eq, up_e]
    have e20 : pt (spl (pt M 0 20 (nI (m - 1))) 6 1 u) 0 18 0 0 20 = nI (m - 1) := by rw [pt_eq, up_o (by decide), spl_out (by omega), pt_eq, up_e]
    have m6 : pt (spl (pt M 0 20 (nI (m - 1))) 6 1 u) 0 18 0 6 = u 0 := by rw [pt_k (by decide), spl_in (by omega)]
    refine ⟨s0, T, C, hT, hC, ?_, ?_, ?_, ?_, ?_, ⟨?_, ?_⟩, ?_, ?_, ?_, ?_⟩
    · rw [e0 10 (by decide) (by decide)]; exact t1
    · rw [e0 11 (by decide) (by decide)]; exact c1
    · rw [e0 12 (by decide) (by decide)]; exact k1
    · rw [er 0 (by omega) (by omega) (by omega), er 1 (by omega) (by omega) (by omega), e0 0 (by decide) (by decide), em 1 (by decide) (by decide)]; exact hl
    · rw [em 5 (by decide) (by decide), e0 12 (by decide) (by decide), m6]
      refine RS_a hT hC (RS_to hT hcp (fun k hk => ?_)) (fun k hk => ?_)
      · show pt (spl (spl R 177 32 S) 22 15 r') 55 1 0 (22 + k) = r' k
        rw [pt_k (by omega), spl_in (by omega), show 22 + k - 22 = k by omega]
      · have z := q2 k hk
        rw [Nat.zero_add] at z
        rw [z]
        show pt M 0 20 (nI (m - 1)) (10 + 0) (64 * (m - 1) + k) = _
        rw [pt_k (by decide)]
    · rw [em 5 (by decide) (by decide), em 7 (by decide) (by decide), e0 12 (by decide) (by decide)]
      exact RS_to hT hlaid.1 (fun k _ => er (4 + k) (by omega) (by omega) (by omega))
    · rw [em 7 (by decide) (by decide)]; exact hlaid.2
    · intro c hc
      rw [er _ (by omega) (by omega) (by omega)]; exact htr c hc
    · rw [em 5 (by decide) (by decide), em 9 (by decide) (by decide), e0 12 (by decide) (by decide), e18]
      obtain ⟨v, hv, v1, v2, v3, v4, v5, v6⟩ := hp
      have z1 : shf (pt (spl (spl R 177 32 S) 22 15 r') 55 1 0) 55 1 = shf R 55 1 := by
        show pt (spl (spl R 177 32 S) 22 15 r') 55 1 0 56 = R 56
        exact er 56 (by omega) (by omega) (by omega)
      refine ⟨0, by omega, ?_, nI_0.symm, fun j hj => by rw [z1]; exact v3 j hj, fun i j hi hj => by rw [z1]; exact v4 i j hi hj, fun w hw c hc => ?_, fun i w hi => absurd hi (by omega)⟩
      · show pt (spl (spl R 177 32 S) 22 15 r') 55 1 0 55 1 = nI 0
        rw [pt_eq, up_e, nI_0]
      · show pt (spl (spl R 177 32 S) 22 15 r') 55 1 0 (55 + (2 + 15 * w + (9 + 2 * c))) 4 = 0
        rw [er _ (by omega) (by omega) (by omega)]; exact v5 w hw c hc
    · rw [em 5 (by decide) (by decide), em 10 (by decide) (by decide), e0 12 (by decide) (by decide), e20]
      refine IShelf_to hT hsh (fun k hk => ?_) (by decide)
      show pt (spl (spl R 177 32 S) 22 15 r') 55 1 0 (177 + k) = S k
      rw [pt_k (by omega), spl_out (by omega), spl_in (by omega), show 177 + k - 177 = k by omega]
    · rw [em 11 (by decide) (by decide), e0 21 (by decide) (by decide)]
      exact IFind_to hf (fun k _ => er (209 + k) (by omega) (by omega) (by omega))
