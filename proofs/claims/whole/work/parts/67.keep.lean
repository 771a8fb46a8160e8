/-! keep -/
/-- a river put upon a shelf that has room -/
theorem put_shelf {N T C n : Nat} {kd : Nat → Int32} {cost : Int32} {s r : Nat → Nat → Int32} {y : Int32} {bk bk' a : Nat → Int32} (hT : T ≤ 6) (hC : C ≤ 3) (hN : N ≤ 8) (h : IShelf N T C kd cost s y bk) (hx : s 0 1 = nI n) (hn : n < N) (hr : RS T C kd cost r a) (hb1 : ∀ i k, i < n → k < 64 → bk' (64 * i + k) = bk (64 * i + k)) (hb2 : ∀ k, k < 64 → bk' (64 * n + k) = a k) : d_X4_put s r N 0 1 = nI (n + 1) ∧ IShelf N T C kd cost (d_X4_put s r N) (nI (n + 1)) bk' := by
  obtain ⟨n', hn', h1, h2, h3, h4, h5, h6⟩ := h
  have en : n' = n := (nI_eq (by omega) (by omega)).mp (by rw [← h1, hx])
  subst en
  obtain ⟨w, hw, hws⟩ := h3 n' hn
  have c0 : (nI n').toNatClampNeg = n' := nI_clamp (by omega)
  have c1 : (nI w).toNatClampNeg = w := nI_clamp (by omega)
  have e : d_X4_put s r N = pt (spl s (2 + 15 * w) 15 (d_X3_copy (shf s (2 + 15 * w)) r)) 0 1 (nI (n' + 1)) := by
    rw [d_X4_put, hx, c0, hws, c1]
    refine (if_pos (nI_lt hn (by omega))).trans ((if_neg (nI_pos (by omega))).trans ((if_neg (nI_ge hn (by omega))).trans ((lt_eq rfl).trans ?_)))
    have z : spl s (2 + 15 * w) 15 (d_X3_copy (shf s (2 + 15 * w)) r) 0 1 = nI n' := by rw [spl_out (by omega)]; exact hx
    rw [z, nI_1]
  have hcp := RS_copy (r := shf s (2 + 15 * w)) hT hr (fun c hc => h5 w hw c hc)
  rw [e]
  generalize d_X3_copy (shf s (2 + 15 * w)) r = u at hcp
  have q1 : pt (spl s (2 + 15 * w) 15 u) 0 1 (nI (n' + 1)) 1 = s 1 := by rw [pt_k (by decide), spl_out (by omega)]
  refine ⟨by rw [pt_eq, up_e], n' + 1, by omega, by rw [pt_eq, up_e], rfl, fun j hj => by rw [q1]; exact h3 j hj, fun i j hi hj => by rw [q1]; exact h4 i j hi hj, fun v hv c hc => ?_, fun i v hi hv g => ?_⟩
  · rw [pt_k (by omega)]
    by_cases hvw : v = w
    · subst hvw
      rw [spl_in (by omega), show 2 + 15 * v + (9 + 2 * c) - (2 + 15 * v) = 9 + 2 * c by omega]
      exact RS_sp hcp c hc
    · rw [spl_out (by omega)]; exact h5 v hv c hc
  · rw [q1] at g
    by_cases hin : i = n'
    · subst hin
      have hvw : v = w := (nI_eq (by omega) (by omega)).mp (by rw [← g, hws])
      subst hvw
      refine RS_a hT hC (RS_to hT hcp (fun k hk => ?_)) (fun k hk => hb2 k hk)
      show pt (spl s (2 + 15 * v) 15 u) 0 1 (nI (i + 1)) (2 + 15 * v + k) = u k
      rw [pt_k (by omega), spl_in (by omega), show 2 + 15 * v + k - (2 + 15 * v) = k by omega]
    · have hvw : v ≠ w := fun z => hin (h4 i n' (by omega) hn (by rw [g, hws, z]))
      refine RS_a hT hC (RS_to hT (h6 i v (by omega) hv g) (fun k hk => ?_)) (fun k hk => hb1 i k (by omega) hk)
      show pt (spl s (2 + 15 * w) 15 u) 0 1 (nI (n' + 1)) (2 + 15 * v + k) = s (2 + 15 * v + k)
      rw [pt_k (by omega), spl_out (by omega)]
