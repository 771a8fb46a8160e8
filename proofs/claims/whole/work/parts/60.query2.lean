/-! town -/
theorem in_out {v : Int32} {N : Nat} (hN : N < 2 ^ 31) (h : ∀ n, n ≤ N → v ≠ nI n) : d_X7_in v 0 (nI N) = 0 := by
  rw [in_eq]
  by_cases z : v < 0 ∨ nI N < v
  · rw [if_pos z]
  · obtain ⟨n, hn, e⟩ := rg_in (fun w => z (Or.inl w)) (fun w => z (Or.inr w)) hN
    exact absurd e (h n hn)
theorem s_town {R M : Nat → Nat → Int32} {t what : Int32} (h : Inv R M) : d_X6_town R t what = d_X7_town M t what := by
  obtain ⟨T, C, hT, hC, t1, c1, k1, hlet, hnow, -⟩ := h
  unfold d_X6_town d_X7_town
  rcases town_cases (Q := shf M 0) (t := t) hT t1 (RS_t hnow) with ⟨u, hu, rfl, e3, e4⟩ | ⟨e3, e4⟩
  · rw [e3, e4]
    simp only [oc, lt]
    have e1 : ¬ (1 : Int32) = 0 := by decide
    have c0 : (nI u).toNatClampNeg = u := nI_clamp (by omega)
    have q := RS_T hnow hu
    have e25 : 22 + (3 + u) = 25 + u := by omega
    have q1 : R (25 + u) 1 = M 6 (25 + u) := by
      have z : R (22 + (3 + u)) 1 = M 6 (25 + u) := q.1
      rw [e25] at z; exact z
    have q2 : R (25 + u) 2 = M 5 u := by rw [← e25]; exact q.2.1
    have q3 : R (25 + u) 3 = M 6 (1 + u) := by rw [← e25]; exact q.2.2.1
    have q4 : R (25 + u) 4 = M 6 (7 + u) := by rw [← e25]; exact q.2.2.2.1
    have q5 : R (25 + u) 5 = M 6 (13 + u) := by rw [← e25]; exact q.2.2.2.2.1
    have q6 : R (25 + u) 6 = M 6 (19 + u) := by rw [← e25]; exact q.2.2.2.2.2.1
    have q7 : R (25 + u) 7 = M 6 (31 + u) := by rw [← e25]; exact q.2.2.2.2.2.2
    have b01 := (hnow.2.2.1.1 u hu).2.1
    rw [if_neg e1, c0]
    by_cases w0 : what = 0
    · subst w0
      rw [if_pos rfl, if_neg (show ¬ d_X7_in 0 0 6 = 0 by decide), if_pos rfl, q2]
    · rw [if_neg w0]
      by_cases w1 : what = 1
      · subst w1
        rw [if_pos rfl, if_neg (show ¬ d_X7_in 1 0 6 = 0 by decide), if_neg w0, q3]; rfl
      · rw [if_neg w1]
        by_cases w2 : what = 2
        · subst w2
          rw [if_pos rfl, if_neg (show ¬ d_X7_in 2 0 6 = 0 by decide), if_neg w0, q4]; rfl
        · rw [if_neg w2]
          by_cases w3 : what = 3
          · subst w3
            rw [if_pos rfl, if_neg (show ¬ d_X7_in 3 0 6 = 0 by decide), if_neg w0, q5]; rfl
          · rw [if_neg w3]
            by_cases w4 : what = 4
            · subst w4
              rw [if_pos rfl, if_neg (show ¬ d_X7_in 4 0 6 = 0 by decide), if_neg w0, q6]; rfl
            · rw [if_neg w4]
              by_cases w5 : what = 5
              · subst w5
                rw [if_pos rfl, if_neg (show ¬ d_X7_in 5 0 6 = 0 by decide), if_neg w0, q1]
                show _ = M 6 (25 + u)
                rcases b01 with b | b
                · rw [b]; rfl
                · rw [b]; rfl
              · rw [if_neg w5]
                by_cases w6 : what = 6
                · subst w6
                  rw [if_pos rfl, if_neg (show ¬ d_X7_in 6 0 6 = 0 by decide), if_neg w0, q7]; rfl
                · rw [if_neg w6]
                  have ho : d_X7_in what 0 6 = 0 := in_out (N := 6) (by decide) (fun n hn => by
                    match n, hn with
                    | 0, _ => exact w0
                    | 1, _ => exact w1
                    | 2, _ => exact w2
                    | 3, _ => exact w3
                    | 4, _ => exact w4
                    | 5, _ => exact w5
                    | 6, _ => exact w6)
                  rw [if_pos ho]
  · rw [e3, e4]; rfl
theorem s_crew {R M : Nat → Nat → Int32} {c what : Int32} (h : Inv R M) : d_X6_crew R c what = d_X7_crew M c what := by
  obtain ⟨T, C, hT, hC, t1, c1, k1, hlet, hnow, -⟩ := h
  unfold d_X6_crew d_X7_crew
  rcases crew_cases (Q := shf M 0) (c := c) hC c1 (RS_c hnow) with ⟨u, hu, rfl, e3, e4⟩ | ⟨e3, e4⟩
  · rw [e3, e4]
    simp only [oc, lt]
    have e1 : ¬ (1 : Int32) = 0 := by decide
    have c0 : (nI u).toNatClampNeg = u := nI_clamp (by omega)
    obtain ⟨q, qg⟩ := RS_C hC hnow hu
    have e25 : 22 + (9 + 2 * u) = 31 + 2 * u := by omega
    have q1 : R (31 + 2 * u) 1 = M 6 (43 + u) := by
      have z : R (22 + (9 + 2 * u)) 1 = M 6 (43 + u) := qg
      rw [e25] at z; exact z
    have q2 : R (31 + 2 * u) 2 = M 6 (37 + u) := by
      have z : R (22 + (9 + 2 * u)) 2 = M 6 (37 + u) := q.1
      rw [e25] at z; exact z
    have q3 : R (31 + 2 * u) 3 = M 6 (40 + u) := by
      have z : R (22 + (9 + 2 * u)) 3 = M 6 (40 + u) := q.2.1
      rw [e25] at z; exact z
    have b01 := hnow.2.1 u hu
    rw [if_neg e1, c0]
    by_cases w0 : what = 0
    · subst w0
      rw [if_pos rfl, if_neg (show ¬ d_X7_in 0 0 2 = 0 by decide), q2]; rfl
    · rw [if_neg w0]
      by_cases w1 : what = 1
      · subst w1
        rw [if_pos rfl, if_neg (show ¬ d_X7_in 1 0 2 = 0 by decide), q3]; rfl
      · rw [if_neg w1]
        by_cases w2 : what = 2
        · subst w2
          rw [if_pos rfl, if_neg (show ¬ d_X7_in 2 0 2 = 0 by decide), q1]
          show _ = M 6 (43 + u)
          rcases b01 with b | b
          · rw [b]; rfl
          · rw [b]; rfl
        · rw [if_neg w2]
          have ho : d_X7_in what 0 2 = 0 := in_out (N := 2) (by decide) (fun n hn => by
            match n, hn with
            | 0, _ => exact w0
            | 1, _ => exact w1
            | 2, _ => exact w2)
          rw [if_pos ho]
  · rw [e3, e4]; rfl
theorem s_asks {R M : Nat → Nat → Int32} {c t : Int32} (h : Inv R M) : d_X6_asks R c t = d_X7_asks M c t := by
  obtain ⟨T, C, hT, hC, t1, c1, k1, hlet, hnow, -⟩ := h
  unfold d_X6_asks d_X7_asks
  rcases crew_cases (Q := shf M 0) (c := c) hC c1 (RS_c hnow) with ⟨u, hu, rfl, e1, e2⟩ | ⟨e1, e2⟩
  · rw [e1, e2]
    rcases town_cases (Q := shf M 0) (t := t) hT t1 (RS_t hnow) with ⟨v, hv, rfl, e3, e4⟩ | ⟨e3, e4⟩
    · rw [e3, e4]
      simp only [oc, lt]
      have n1 : ¬ (1 : Int32) = 0 := by decide
      have c0 : (nI u).toNatClampNeg = u := nI_clamp (by omega)
      have c2 : (nI v).toNatClampNeg = v := nI_clamp (by omega)
      have q1 : R (31 + 2 * u) 1 = M 6 (43 + u) := by
        have z : R (22 + (9 + 2 * u)) 1 = M 6 (43 + u) := (RS_C hC hnow hu).2
        rw [show 22 + (9 + 2 * u) = 31 + 2 * u by omega] at z; exact z
      have q2 : R (25 + v) 1 = M 6 (25 + v) := by
        have z : R (22 + (3 + v)) 1 = M 6 (25 + v) := (RS_T hnow hv).1
        rw [show 22 + (3 + v) = 25 + v by omega] at z; exact z
      have bc := hnow.2.1 u hu
      have bt := (hnow.2.2.1.1 v hv).2.1
      obtain ⟨⟨go, hRV, -⟩, -⟩ := hnow
      have hA := ask_sim hT hRV hv (show u < 3 by omega) hu
      have hA2 : d_X0_wouldAsk (shf R (31 + 2 * u)) (shf R (25 + v)) (nI v) = askA (M 5) (M 6) u v := by
        have z1 : shf (shf R 22) (9 + 2 * u) = shf R (31 + 2 * u) := by funext k; show R (22 + (9 + 2 * u + k)) = R (31 + 2 * u + k); rw [show 22 + (9 + 2 * u + k) = 31 + 2 * u + k by omega]
        have z2 : shf (shf R 22) (3 + v) = shf R (25 + v) := by funext k; show R (22 + (3 + v + k)) = R (25 + v + k); rw [show 22 + (3 + v + k) = 25 + v + k by omega]
        rw [z1, z2] at hA; exact hA
      have hB : d_X7_askOf (shf M 0) (shf M 5) (shf M 6) (nI u) (nI v) = askA (M 5) (M 6) u v := by
        rw [askOf_eq (by omega), c0]; rfl
      rw [if_neg n1, if_neg n1, c0, c2, q1, q2, hA2, hB]
      rcases bc with b | b
      · rw [b, if_pos rfl, if_neg (show ¬ (0 : Int32) = 1 by decide)]
        rcases bt with b2 | b2
        · rw [b2, if_pos rfl, if_neg (show ¬ (0 : Int32) = 1 by decide)]
        · rw [b2, if_neg n1, if_pos rfl]
      · rw [b, if_neg n1, if_pos rfl]
    · rw [e3, e4]; rfl
  · rw [e1, e2]
    simp only [oc, lt, if_true]
    cases d_X3_townAt (shf R 22) t <;> rfl
