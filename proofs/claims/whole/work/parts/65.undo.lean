/-! undo -/
theorem s_undo {R M : Nat → Nat → Int32} (h : Inv R M) : (d_X6_undo R).1 = (d_X7_undo M).1 ∧ Inv (d_X6_undo R).2 (d_X7_undo M).2 := by
  have h' := h
  obtain ⟨T, C, hT, hC, t1, c1, k1, hl, hnow, hlaid, htr, hp, hk, hf⟩ := h'
  have hp' := hp
  obtain ⟨m, hm, p1, p2, p3, p4, p5, p6⟩ := hp'
  have x1 : R 55 1 = nI m := p1
  by_cases g0 : m = 0
  · subst g0
    have e6 : d_X6_undo R = (-2, R) := by rw [d_X6_undo]; exact if_pos (by rw [x1, nI_0])
    have e7 : d_X7_undo M = (-2, M) := by rw [d_X7_undo]; exact if_pos (by rw [p2, nI_0])
    rw [e6, e7]; exact ⟨rfl, h⟩
  · obtain ⟨w, hw8, hw⟩ := p3 (m - 1) (by omega)
    have c0 : (nI m).toNatClampNeg = m := nI_clamp (by omega)
    have ht := take_eq (s := shf R 55) (r := shf R 22) (N := 8) (by omega) hm (by omega) p1 hw hw8
    have hsh := take_shelf hT hp (by omega) p1 hm (by omega)
    generalize hS : pt (shf R 55) 0 1 (nI (m - 1)) = S at ht hsh
    have hriv : RS T C (M 5) (M 0 12) (shf S (2 + 15 * w)) (fun k => M 9 (64 * (m - 1) + k)) := by
      refine RS_to hT (p6 (m - 1) w (by omega) hw8 hw) (fun k hk => ?_)
      show S (2 + 15 * w + k) = _
      rw [← hS, pt_k (by omega)]; rfl
    have hcp := RS_copy (r := shf R 22) hT hriv (RS_sp hnow)
    generalize hr : d_X3_copy (shf R 22) (shf S (2 + 15 * w)) = r' at ht hcp
    have e6 : d_X6_undo R = (S 0 1, spl (spl R 55 122 S) 22 15 r') := by
      rw [d_X6_undo]; exact (if_neg (by rw [x1]; exact nI_ne0 (by omega) (by omega))).trans (lt_eq ht.symm)
    obtain ⟨q1, q2⟩ := mcopy_at (A := shf (pt M 0 18 (nI (m - 1))) 9) (B := shf (pt M 0 18 (nI (m - 1))) 6) (p := 64 * (m - 1)) (q := 0) (la := 512) (lb := 64) (by omega) (by omega)
    rw [nI_0] at q1 q2
    generalize hu : d_X7_copy (shf (pt M 0 18 (nI (m - 1))) 9) (shf (pt M 0 18 (nI (m - 1))) 6) 512 64 (nI (64 * (m - 1))) 0 = u at q1 q2
    have e7 : d_X7_undo M = (nI (m - 1), spl (pt M 0 18 (nI (m - 1))) 6 1 u) := by
      rw [d_X7_undo, p2, c0]; exact (if_neg (nI_ne0 (by omega) (by omega))).trans (lt_eq hu.symm)
    rw [e6, e7]
    dsimp only
    have s0 : S 0 1 = nI (m - 1) := by rw [← hS, pt_eq, up_e]
    have er : ∀ q, ¬ (22 ≤ q ∧ q < 37) → ¬ (55 ≤ q ∧ q < 177) → spl (spl R 55 122 S) 22 15 r' q = R q := fun q z1 z2 => by rw [spl_out (by omega), spl_out (by omega)]
    have em : ∀ q, q ≠ 0 → q ≠ 6 → spl (pt M 0 18 (nI (m - 1))) 6 1 u q = M q := fun q z1 z2 => by rw [spl_out (by omega), pt_k z1]
    have e0 : ∀ j, j ≠ 18 → spl (pt M 0 18 (nI (m - 1))) 6 1 u 0 j = M 0 j := fun j z => by rw [spl_out (by omega), pt_eq, up_o z]
    have e18 : spl (pt M 0 18 (nI (m - 1))) 6 1 u 0 18 = nI (m - 1) := by rw [spl_out (by omega), pt_eq, up_e]
    have m6 : spl (pt M 0 18 (nI (m - 1))) 6 1 u 6 = u 0 := by rw [spl_in (by omega)]
    refine ⟨s0, T, C, hT, hC, ?_, ?_, ?_, ?_, ?_, ⟨?_, ?_⟩, ?_, ?_, ?_, ?_⟩
    · rw [e0 10 (by decide)]; exact t1
    · rw [e0 11 (by decide)]; exact c1
    · rw [e0 12 (by decide)]; exact k1
    · rw [er 0 (by omega) (by omega), er 1 (by omega) (by omega), e0 0 (by decide), em 1 (by decide) (by decide)]; exact hl
    · rw [em 5 (by decide) (by decide), e0 12 (by decide), m6]
      refine RS_a hT hC (RS_to hT hcp (fun k hk => ?_)) (fun k hk => ?_)
      · show spl (spl R 55 122 S) 22 15 r' (22 + k) = r' k
        rw [spl_in (by omega), show 22 + k - 22 = k by omega]
      · have z := q2 k hk
        rw [Nat.zero_add] at z
        rw [z]
        show pt M 0 18 (nI (m - 1)) (9 + 0) (64 * (m - 1) + k) = _
        rw [pt_k (by decide)]
    · rw [em 5 (by decide) (by decide), em 7 (by decide) (by decide), e0 12 (by decide)]
      exact RS_to hT hlaid.1 (fun k _ => er (4 + k) (by omega) (by omega))
    · rw [em 7 (by decide) (by decide)]; exact hlaid.2
    · intro c hc
      rw [er _ (by omega) (by omega)]; exact htr c hc
    · rw [em 5 (by decide) (by decide), em 9 (by decide) (by decide), e0 12 (by decide), e18]
      refine IShelf_to hT hsh (fun k hk => ?_) (by decide)
      show spl (spl R 55 122 S) 22 15 r' (55 + k) = S k
      rw [spl_out (by omega), spl_in (by omega), show 55 + k - 55 = k by omega]
    · rw [em 5 (by decide) (by decide), em 10 (by decide) (by decide), e0 12 (by decide), e0 20 (by decide)]
      exact IShelf_to hT hk (fun k _ => er (177 + k) (by omega) (by omega)) (by decide)
    · rw [em 11 (by decide) (by decide), e0 21 (by decide)]
      exact IFind_to hf (fun k _ => er (209 + k) (by omega) (by omega))
