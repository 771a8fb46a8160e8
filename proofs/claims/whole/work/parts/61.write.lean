/-! write, forget -/
/-- numbers outside the letters change nothing else of the invariant -/
theorem Inv_let {R M R' M' : Nat → Nat → Int32} (h : Inv R M) (er : ∀ q, q ≠ 0 → q ≠ 1 → R' q = R q) (em : ∀ q, q ≠ 0 → q ≠ 1 → M' q = M q) (e0 : ∀ j, j ≠ 0 → M' 0 j = M 0 j) (hl : ILet (R' 0 1) (R' 1) (M' 0 0) (M' 1)) : Inv R' M' := by
  obtain ⟨T, C, hT, hC, t1, c1, k1, -, hnow, hlaid, htr, hp, hk, hf⟩ := h
  refine ⟨T, C, hT, hC, ?_, ?_, ?_, hl, ?_, ⟨?_, ?_⟩, ?_, ?_, ?_, ?_⟩
  · rw [e0 10 (by decide)]; exact t1
  · rw [e0 11 (by decide)]; exact c1
  · rw [e0 12 (by decide)]; exact k1
  · rw [em 5 (by decide) (by decide), em 6 (by decide) (by decide), e0 12 (by decide)]
    exact RS_to hT hnow (fun k _ => er (22 + k) (by omega) (by omega))
  · rw [em 5 (by decide) (by decide), em 7 (by decide) (by decide), e0 12 (by decide)]
    exact RS_to hT hlaid.1 (fun k _ => er (4 + k) (by omega) (by omega))
  · rw [em 7 (by decide) (by decide)]; exact hlaid.2
  · intro c hc
    rw [er _ (by omega) (by omega)]; exact htr c hc
  · rw [em 5 (by decide) (by decide), em 9 (by decide) (by decide), e0 12 (by decide), e0 18 (by decide)]
    exact IShelf_to hT hp (fun k _ => er (55 + k) (by omega) (by omega)) (by decide)
  · rw [em 5 (by decide) (by decide), em 10 (by decide) (by decide), e0 12 (by decide), e0 20 (by decide)]
    exact IShelf_to hT hk (fun k _ => er (177 + k) (by omega) (by omega)) (by decide)
  · rw [em 11 (by decide) (by decide), e0 21 (by decide)]
    exact IFind_to hf (fun k _ => er (209 + k) (by omega) (by omega))
theorem s_write {R M : Nat → Nat → Int32} {z : Int32} (h : Inv R M) : (d_X6_write R z).1 = (d_X7_write M z).1 ∧ Inv (d_X6_write R z).2 (d_X7_write M z).2 := by
  have h' := h
  obtain ⟨T, C, hT, hC, t1, c1, k1, ⟨n, hn, hx, hy, hl⟩, -⟩ := h'
  by_cases g1 : z < 32
  · have e6 : d_X6_write R z = (-1, R) := by rw [d_X6_write]; exact if_pos g1
    have e7 : d_X7_write M z = (-1, M) := by rw [d_X7_write, lt, in_eq, if_pos (Or.inl g1)]; exact if_pos rfl
    rw [e6, e7]; exact ⟨rfl, h⟩
  · by_cases g2 : 126 < z
    · have e6 : d_X6_write R z = (-1, R) := by rw [d_X6_write]; exact (if_neg g1).trans (if_neg (fun w => Int32.not_lt.mpr w g2))
      have e7 : d_X7_write M z = (-1, M) := by rw [d_X7_write, lt, in_eq, if_pos (Or.inr g2)]; exact if_pos rfl
      rw [e6, e7]; exact ⟨rfl, h⟩
    · have hi : d_X7_in z 32 126 = 1 := by rw [in_eq, if_neg (fun w => w.elim g1 g2)]
      have g2' : z ≤ 126 := Int32.not_lt.mp g2
      have hz0 : ¬ z < 0 := fun w => g1 (Int32.lt_trans w (by decide))
      obtain ⟨k, hk, rfl⟩ := rg_in (N := 126) hz0 g2 (by decide)
      have p0 : ¬ R 0 1 < 0 := by rw [hx]; exact nI_pos (by omega)
      by_cases g3 : n = 200
      · subst g3
        have e6 : d_X6_write R (nI k) = (-3, R) := by
          rw [d_X6_write]; exact (if_neg g1).trans ((if_pos g2').trans ((if_neg p0).trans (if_neg (by rw [hx]; exact nI_nlt (Nat.le_refl _) (by decide)))))
        have e7 : d_X7_write M (nI k) = (-3, M) := by rw [d_X7_write, lt, hi]; exact (if_neg (by decide)).trans (if_pos hy)
        rw [e6, e7]; exact ⟨rfl, h⟩
      · have c0 : (nI n).toNatClampNeg = n := nI_clamp (by omega)
        have e6 : d_X6_write R (nI k) = (nI (n + 1), pt (pt R 1 n (nI k)) 0 1 (nI (n + 1))) := by
          rw [d_X6_write, hx, c0, nar_ok k hk, nI_1]
          exact (if_neg g1).trans ((if_pos g2').trans ((if_neg (by rw [← hx]; exact p0)).trans (if_pos (nI_lt (by omega) (by decide)))))
        have e7 : d_X7_write M (nI k) = (nI (n + 1), pt (pt M 1 n (nI k)) 0 0 (nI (n + 1))) := by
          rw [d_X7_write, lt, hi, hy, c0]
          exact (if_neg (by decide)).trans (if_neg (fun w => g3 ((nI_eq (by omega) (by decide)).mp w)))
        rw [e6, e7]
        refine ⟨rfl, Inv_let h (fun q q0 q1 => by show pt (pt R 1 n (nI k)) 0 1 (nI (n + 1)) q = _; rw [pt_k q0, pt_k q1]) (fun q q0 q1 => by show pt (pt M 1 n (nI k)) 0 0 (nI (n + 1)) q = _; rw [pt_k q0, pt_k q1]) (fun j hj => ?_) ⟨n + 1, by omega, ?_, ?_, fun j hj => ?_⟩⟩
        · show pt (pt M 1 n (nI k)) 0 0 (nI (n + 1)) 0 j = _
          rw [pt_eq, up_o hj, pt_k (by decide)]
        · show pt (pt R 1 n (nI k)) 0 1 (nI (n + 1)) 0 1 = _
          rw [pt_eq, up_e]
        · show pt (pt M 1 n (nI k)) 0 0 (nI (n + 1)) 0 0 = _
          rw [pt_eq, up_e]
        · show pt (pt R 1 n (nI k)) 0 1 (nI (n + 1)) 1 j = pt (pt M 1 n (nI k)) 0 0 (nI (n + 1)) 1 j ∧ rg 126 (pt (pt M 1 n (nI k)) 0 0 (nI (n + 1)) 1 j)
          rw [pt_k (by decide), pt_eq, pt_k (by decide), pt_eq]
          by_cases hjn : j = n
          · subst hjn; rw [up_e, up_e]; exact ⟨rfl, k, hk, rfl⟩
          · rw [up_o hjn, up_o hjn]; exact hl j (by omega)
