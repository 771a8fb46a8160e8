/-! shelves -/
theorem take_eq {N n w : Nat} {s r : Nat → Nat → Int32} (hN : N ≤ 8) (hn : n ≤ N) (h0 : 0 < n) (hx : s 0 1 = nI n) (hw : s 1 (n - 1) = nI w) (hwN : w < N) : d_X4_takeInto s r N = (pt s 0 1 (nI (n - 1)), d_X3_copy r (shf (pt s 0 1 (nI (n - 1))) (2 + 15 * w))) := by
  have c0 : (nI n).toNatClampNeg = n := nI_clamp (by omega)
  have c1 : (nI w).toNatClampNeg = w := nI_clamp (by omega)
  have e : pt s 0 1 (nI (n - 1)) 1 (n - 1) = nI w := by rw [pt_k (by decide)]; exact hw
  rw [d_X4_takeInto, hx, c0, e, c1]
  exact (if_neg (nI_nle h0 (by omega))).trans ((if_neg (nI_nlt hn (by omega))).trans (lt_eq rfl))
theorem take_shelf {N T C n : Nat} {kd : Nat → Int32} {cost : Int32} {s : Nat → Nat → Int32} {y : Int32} {bk : Nat → Int32} (hT : T ≤ 6) (h : IShelf N T C kd cost s y bk) (h0 : 0 < n) (hx : s 0 1 = nI n) (hn : n ≤ N) (hN : N ≤ 8) : IShelf N T C kd cost (pt s 0 1 (nI (n - 1))) (nI (n - 1)) bk := by
  obtain ⟨n', hn', h1, h2, h3, h4, h5, h6⟩ := h
  have en : n' = n := (nI_eq (by omega) (by omega)).mp (by rw [← h1, hx])
  subst en
  have e : ∀ k, k ≠ 0 → pt s 0 1 (nI (n' - 1)) k = s k := fun k hk => pt_k hk
  refine ⟨n' - 1, by omega, by rw [pt_eq, up_e], rfl, fun j hj => by rw [e 1 (by decide)]; exact h3 j hj, fun i j hi hj => by rw [e 1 (by decide)]; exact h4 i j hi hj, fun w hw c hc => by rw [e _ (by omega)]; exact h5 w hw c hc, fun i w hi hw g => ?_⟩
  rw [e 1 (by decide)] at g
  exact RS_to hT (h6 i w (by omega) hw g) (fun k hk => e (2 + 15 * w + k) (by omega))
