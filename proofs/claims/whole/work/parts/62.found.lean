/-! forget, found -/
/-- numbers outside what was found change nothing else of the invariant -/
theorem Inv_find {R M R' M' : Nat → Nat → Int32} (h : Inv R M) (er : ∀ q, q < 209 ∨ 213 ≤ q → R' q = R q) (em : ∀ q, q ≠ 0 → q ≠ 11 → M' q = M q) (e0 : ∀ j, j ≠ 21 → M' 0 j = M 0 j) (hf : ∀ T, M 0 10 = nI T → T ≤ 6 → IFind T (shf R' 209) (M' 0 21) (M' 11)) : Inv R' M' := by
  obtain ⟨T, C, hT, hC, t1, c1, k1, hl, hnow, hlaid, htr, hp, hk, -⟩ := h
  refine ⟨T, C, hT, hC, ?_, ?_, ?_, ?_, ?_, ⟨?_, ?_⟩, ?_, ?_, ?_, hf T t1 hT⟩
  · rw [e0 10 (by decide)]; exact t1
  · rw [e0 11 (by decide)]; exact c1
  · rw [e0 12 (by decide)]; exact k1
  · rw [er 0 (by omega), er 1 (by omega), e0 0 (by decide), em 1 (by decide) (by decide)]; exact hl
  · rw [em 5 (by decide) (by decide), em 6 (by decide) (by decide), e0 12 (by decide)]
    exact RS_to hT hnow (fun k _ => er (22 + k) (by omega))
  · rw [em 5 (by decide) (by decide), em 7 (by decide) (by decide), e0 12 (by decide)]
    exact RS_to hT hlaid.1 (fun k _ => er (4 + k) (by omega))
  · rw [em 7 (by decide) (by decide)]; exact hlaid.2
  · intro c hc
    rw [er _ (by omega)]; exact htr c hc
  · rw [em 5 (by decide) (by decide), em 9 (by decide) (by decide), e0 12 (by decide), e0 18 (by decide)]
    exact IShelf_to hT hp (fun k _ => er (55 + k) (by omega)) (by decide)
  · rw [em 5 (by decide) (by decide), em 10 (by decide) (by decide), e0 12 (by decide), e0 20 (by decide)]
    exact IShelf_to hT hk (fun k _ => er (177 + k) (by omega)) (by decide)
theorem Inv.find {R M : Nat → Nat → Int32} (h : Inv R M) : ∃ T, T ≤ 6 ∧ M 0 10 = nI T ∧ IFind T (shf R 209) (M 0 21) (M 11) := by
  obtain ⟨T, C, hT, hC, t1, c1, k1, hl, hnow, hlaid, htr, hp, hk, hf⟩ := h
  exact ⟨T, hT, t1, hf⟩
theorem nI_inj6 {T U : Nat} (hT : T ≤ 6) (hU : U ≤ 6) (h : nI T = nI U) : T = U := (nI_eq (by omega) (by omega)).mp h
theorem s_forget {R M : Nat → Nat → Int32} (h : Inv R M) : (d_X6_forget R).1 = (d_X7_forget M).1 ∧ Inv (d_X6_forget R).2 (d_X7_forget M).2 := by
  obtain ⟨T, hT, t1, n, hn, hx, hy, hr, hi⟩ := h.find
  refine ⟨by show R 209 3 = M 0 21; rw [hy]; exact hx, Inv_find h (fun q hq => ?_) (fun q q0 q1 => ?_) (fun j hj => ?_) (fun U hU hU6 => ⟨0, by omega, ?_, ?_, fun i hi' => ?_, fun i hi' => absurd hi' (by omega)⟩)⟩
  · show pt R 209 3 0 q = R q; exact pt_k (by omega)
  · show pt M 0 21 0 q = M q; exact pt_k q0
  · show pt M 0 21 0 0 j = M 0 j; rw [pt_eq, up_o hj]
  · show pt R 209 3 0 (209 + 0) 3 = _; rw [pt_eq, up_e]; exact nI_0.symm
  · show pt M 0 21 0 0 21 = _; rw [pt_eq, up_e]; exact nI_0.symm
  · show rg 20 (pt R 209 3 0 (209 + 2) i) ∧ rg 5 (pt M 0 21 0 11 (3 * i))
    rw [pt_k (by omega), pt_k (by decide)]
    exact hr i hi'
