/-! keep -/
/-- a river put upon a shelf that has room -/
theorem put_shelf {N T C n : Nat} {kd : Nat → Int32} {cost : Int32} {s r : Nat → Nat → Int32} {y : Int32} {bk bk' a : Nat → Int32} (hT : T ≤ 6) (hC : C ≤ 3) (hN : N ≤ 8) (h : IShelf N T C kd cost s y bk) (hx : s 0 1 = nI n) (hn : n < N) (hr : RS T C kd cost r a) (hb1 : ∀ i k, i < n → k < 64 → bk' (64 * i + k) = bk (64 * i + k)) (hb2 : ∀ k, k < 64 → bk' (64 * n + k) = a k) : d_X4_put s r N 0 1 = nI (n + 1) ∧ IShelf N T C kd cost (d_X4_put s r N) (nI (n + 1)) bk' := by
  obtain ⟨n', hn', h1, h2, h3, h4, h5, h6⟩ := h
  have en : n' = n := (nI_eq (by omega) (by omega)).mp (by rw [← h1, hx])
  subst en
  obtain ⟨w, hw, hws⟩ := h3 n' hn
  have c0 : (nI n').toNatClampNeg = n' := nI_clamp (by omega)
  have c1 : (nI w).toNatClampNeg = w := nI_clamp (by omega)
  have e : d_X4_put s r N = pt (spl s (2 + 15 * w) 15 (d_X3_copy (shf s (2 + 15 * w)) r)) 0 1 (nI (n' + 1)) := by
    rw [d_X4_put, hx, c0, hws, c1]
    refine (if_pos (nI_lt hn (by omega))).trans ((if_neg (nI_pos (by omega))).trans ((if_neg (nI_ge hn (by omega))).trans ((lt_eq rfl).trans ?_)))
    have z : spl s (2 + 15 * w) 15 (d_X3_copy (shf s (2 + 15 * w)) r) 0 1 = nI n' := by rw [spl_out (by omega)]; exact hx
    rw [z, nI_1]
  have hcp := RS_copy (r := shf s (2 + 15 * w)) hT hr (fun c hc => h5 w hw c hc)
  rw [e]
  generalize d_X3_copy (shf s (2 + 15 * w)) r = u at hcp
  have q1 : pt (spl s (2 + 15 * w) 15 u) 0 1 (nI (n' + 1)) 1 = s 1 := by rw [pt_k (by decide), spl_out (by omega)]
  refine ⟨by rw [pt_eq, up_e], n' + 1, by omega, by rw [pt_eq, up_e], rfl, fun j hj => by rw [q1]; exact h3 j hj, fun i j hi hj => by rw [q1]; exact h4 i j hi hj, fun v hv c hc => ?_, fun i v hi hv g => ?_⟩
  · rw [pt_k (by omega)]
    by_cases hvw : v = w
    · subst hvw
      rw [spl_in (by omega), show 2 + 15 * v + (9 + 2 * c) - (2 + 15 * v) = 9 + 2 * c by omega]
      exact RS_sp hcp c hc
    · rw [spl_out (by omega)]; exact h5 v hv c hc
  · rw [q1] at g
    by_cases hin : i = n'
    · subst hin
      have hvw : v = w := (nI_eq (by omega) (by omega)).mp (by rw [← g, hws])
      subst hvw
      refine RS_a hT hC (RS_to hT hcp (fun k hk => ?_)) (fun k hk => hb2 k hk)
      show pt (spl s (2 + 15 * v) 15 u) 0 1 (nI (i + 1)) (2 + 15 * v + k) = u k
      rw [pt_k (by omega), spl_in (by omega), show 2 + 15 * v + k - (2 + 15 * v) = k by omega]
    · have hvw : v ≠ w := fun z => hin (h4 i n' (by omega) hn (by rw [g, hws, z]))
      refine RS_a hT hC (RS_to hT (h6 i v (by omega) hv g) (fun k hk => ?_)) (fun k hk => hb1 i k (by omega) hk)
      show pt (spl s (2 + 15 * w) 15 u) 0 1 (nI (n' + 1)) (2 + 15 * v + k) = s (2 + 15 * v + k)
      rw [pt_k (by omega), spl_out (by omega)]
theorem s_keep {R M : Nat → Nat → Int32} (h : Inv R M) : (d_X6_keep R).1 = (d_X7_keep M).1 ∧ Inv (d_X6_keep R).2 (d_X7_keep M).2 := by
  have h' := h
  obtain ⟨T, C, hT, hC, t1, c1, k1, hl, hnow, hlaid, htr, hp, hk, hf⟩ := h'
  have hk' := hk
  obtain ⟨m, hm, p1, p2, -⟩ := hk'
  have x1 : R 177 1 = nI m := p1
  by_cases g0 : m = 2
  · subst g0
    have e6 : d_X6_keep R = (-3, R) := by rw [d_X6_keep]; exact if_neg (by rw [x1]; exact nI_nlt (b := 2) (Nat.le_refl _) (by decide))
    have e7 : d_X7_keep M = (-3, M) := by rw [d_X7_keep]; exact if_pos p2
    rw [e6, e7]; exact ⟨rfl, h⟩
  · have c0 : (nI m).toNatClampNeg = m := nI_clamp (by omega)
    obtain ⟨q1, q2⟩ := mcopy_at (A := shf M 6) (B := shf M 10) (p := 0) (q := 64 * m) (la := 64) (lb := 128) (by omega) (by omega)
    rw [nI_0] at q1 q2
    generalize hu : d_X7_copy (shf M 6) (shf M 10) 64 128 0 (nI (64 * m)) = u at q1 q2
    have e7 : d_X7_keep M = (nI (m + 1), pt (spl M 10 1 u) 0 20 (nI (m + 1))) := by
      rw [d_X7_keep, p2, c0]; exact (if_neg (fun w => g0 ((nI_eq (b := 2) (by omega) (by decide)).mp w))).trans (lt_eq hu.symm)
    obtain ⟨s0, hsh⟩ := put_shelf (r := shf R 22) (a := M 6) (bk' := u 0) hT hC (by decide) hk p1 (by omega) hnow (fun i k hi hk2 => q1 (64 * i + k) (by omega)) (fun k hk2 => by have z := q2 k hk2; rw [Nat.zero_add] at z; exact z)
    generalize hS : d_X4_put (shf R 177) (shf R 22) 2 = S at s0 hsh
    have e6 : d_X6_keep R = (S 0 1, spl R 177 32 S) := by
      rw [d_X6_keep]; exact (if_pos (by rw [x1]; exact nI_lt (b := 2) (by omega) (by decide))).trans (lt_eq hS.symm)
    rw [e6, e7]
    dsimp only
    have er : ∀ q, ¬ (177 ≤ q ∧ q < 209) → spl R 177 32 S q = R q := fun q z => spl_out (by omega)
    have em : ∀ q, q ≠ 0 → q ≠ 10 → pt (spl M 10 1 u) 0 20 (nI (m + 1)) q = M q := fun q z1 z2 => by rw [pt_k z1, spl_out (by omega)]
    have e0 : ∀ j, j ≠ 20 → pt (spl M 10 1 u) 0 20 (nI (m + 1)) 0 j = M 0 j := fun j z => by rw [pt_eq, up_o z, spl_out (by omega)]
    have e20 : pt (spl M 10 1 u) 0 20 (nI (m + 1)) 0 20 = nI (m + 1) := by rw [pt_eq, up_e]
    have m10 : pt (spl M 10 1 u) 0 20 (nI (m + 1)) 10 = u 0 := by rw [pt_k (by decide), spl_in (by omega)]
    refine ⟨s0, T, C, hT, hC, ?_, ?_, ?_, ?_, ?_, ⟨?_, ?_⟩, ?_, ?_, ?_, ?_⟩
    · rw [e0 10 (by decide)]; exact t1
    · rw [e0 11 (by decide)]; exact c1
    · rw [e0 12 (by decide)]; exact k1
    · rw [er 0 (by omega), er 1 (by omega), e0 0 (by decide), em 1 (by decide) (by decide)]; exact hl
    · rw [em 5 (by decide) (by decide), em 6 (by decide) (by decide), e0 12 (by decide)]
      exact RS_to hT hnow (fun k _ => er (22 + k) (by omega))
    · rw [em 5 (by decide) (by decide), em 7 (by decide) (by decide), e0 12 (by decide)]
      exact RS_to hT hlaid.1 (fun k _ => er (4 + k) (by omega))
    · rw [em 7 (by decide) (by decide)]; exact hlaid.2
    · intro c hc
      rw [er _ (by omega)]; exact htr c hc
    · rw [em 5 (by decide) (by decide), em 9 (by decide) (by decide), e0 12 (by decide), e0 18 (by decide)]
      exact IShelf_to hT hp (fun k _ => er (55 + k) (by omega)) (by decide)
    · rw [em 5 (by decide) (by decide), e0 12 (by decide), e20, m10]
      refine IShelf_to hT hsh (fun k hk => ?_) (by decide)
      show spl R 177 32 S (177 + k) = S k
      rw [spl_in (by omega), show 177 + k - 177 = k by omega]
    · rw [em 11 (by decide) (by decide), e0 21 (by decide)]
      exact IFind_to hf (fun k _ => er (209 + k) (by omega))
