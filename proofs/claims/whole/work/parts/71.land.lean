/-! land, raise, hire -/
theorem now_t {X : Nat → Nat → Int32} {v : Nat} : shf X 22 (3 + v) = X (25 + v) := by show X (22 + (3 + v)) = _; rw [show 22 + (3 + v) = 25 + v by omega]
theorem now_c {X : Nat → Nat → Int32} {w : Nat} : shf X 22 (9 + 2 * w) = X (31 + 2 * w) := by show X (22 + (9 + 2 * w)) = _; rw [show 22 + (9 + 2 * w) = 31 + 2 * w by omega]
theorem now_T {T C t : Nat} {kd : Nat → Int32} {cost : Int32} {X : Nat → Nat → Int32} {a : Nat → Int32} (h : RS T C kd cost (shf X 22) a) (ht : t < T) : X (25 + t) 1 = a (25 + t) ∧ X (25 + t) 2 = kd t ∧ X (25 + t) 3 = a (1 + t) ∧ X (25 + t) 4 = a (7 + t) ∧ X (25 + t) 5 = a (13 + t) ∧ X (25 + t) 6 = a (19 + t) ∧ X (25 + t) 7 = a (31 + t) := by
  have z := RS_T h ht
  unfold RT at z
  rw [now_t] at z; exact z
theorem now_C {T C c : Nat} {kd : Nat → Int32} {cost : Int32} {X : Nat → Nat → Int32} {a : Nat → Int32} (hC : C ≤ 3) (h : RS T C kd cost (shf X 22) a) (hc : c < C) : X (31 + 2 * c) 2 = a (37 + c) ∧ X (31 + 2 * c) 3 = a (40 + c) ∧ X (31 + 2 * c) 1 = a (43 + c) := by
  obtain ⟨z, z2⟩ := RS_C hC h hc
  unfold RC at z
  rw [now_c] at z z2; exact ⟨z.1, z.2.1, z2⟩
theorem nI_subneg {a b : Nat} (h : a < b) (hb : b < 2 ^ 30) : ¬ 0 ≤ nI a - nI b := by
  rw [Int32.le_iff_toInt_le, Int32.toInt_sub, nI_toInt (by omega), nI_toInt (by omega), Int.bmod_eq_of_le (by omega) (by omega)]
  have e0 : (0 : Int32).toInt = 0 := by decide
  rw [e0]; omega
theorem imax_eq {x : Int32} : imax 0 x = if 0 ≤ x then x else 0 := by
  unfold imax
  by_cases h : 0 < x
  · rw [if_pos h, if_pos (Int32.le_of_lt h)]
  · rw [if_neg h]
    by_cases h2 : 0 ≤ x
    · rw [if_pos h2]; exact Int32.le_antisymm h2 (Int32.not_lt.mp h)
    · rw [if_neg h2]
theorem land_inc {x y : Int32} (hx : rg 100 x) (hy : rg 60 y) : rg 100 (if 0 ≤ x - y / 2 then x - y / 2 else 0) := by
  obtain ⟨i, hi, rfl⟩ := hx
  obtain ⟨k, hk, e⟩ := rg_half hy (by decide)
  rw [e]
  by_cases g : k ≤ i
  · rw [nI_sub g, if_pos (nI_pos' (by omega))]; exact ⟨i - k, by omega, rfl⟩
  · rw [if_neg (nI_subneg (by omega) (by omega))]; exact rg_0
theorem land_wal : ∀ n, n ≤ 20 → imin 20 (nI n + 2) = (if nI n ≤ 18 then nI n + 2 else 20) ∧ (if nI n ≤ 18 then nI n + 2 else 20) = nI (min 20 (n + 2)) := by decide
theorem s_land {R M : Nat → Nat → Int32} {t c : Int32} (h : Inv R M) : (d_X6_land R t c).1 = (d_X7_land M t c).1 ∧ Inv (d_X6_land R t c).2 (d_X7_land M t c).2 := by
  obtain ⟨T, C, hT, hC, t1, c1, k1, hnow, S, u, X, Y, hS, hu, hX, hY, x0, y0, e0, hn, hI⟩ := noted h
  have n1 : ¬ (1 : Int32) = 0 := by decide
  have n0 : ¬ (0 : Int32) = 1 := by decide
  rcases town_cases (Q := shf M 0) (t := t) hT t1 (RS_t hnow) with ⟨v, hv, rfl, e1, e2⟩ | ⟨e1, e2⟩
  · rcases crew_cases (Q := shf M 0) (c := c) hC c1 (RS_c hnow) with ⟨w, hw, rfl, e3, e4⟩ | ⟨e3, e4⟩
    · have c0 : (nI v).toNatClampNeg = v := nI_clamp (by omega)
      have c2 : (nI w).toNatClampNeg = w := nI_clamp (by omega)
      have q1 : R (25 + v) 1 = M 6 (25 + v) := (now_T hnow hv).1
      have q2 : R (31 + 2 * w) 1 = M 6 (43 + w) := (now_C hC hnow hw).2.2
      have b1 := (hnow.2.2.1.1 v hv).2.1
      have b2 := hnow.2.1 w hw
      rcases b1 with b1 | b1
      · rcases b2 with b2 | b2
        · obtain ⟨-, -, -, p4, p5, -⟩ := now_T hn hv
          obtain ⟨-, p3, -⟩ := now_C hC hn hw
          have hinc := land_inc (hn.2.2.1.1 v hv).2.2.2 (hn.2.2.1.2 w hw).2.1
          obtain ⟨n, hn20, pw⟩ := (hn.2.2.2 v (by omega)).2
          obtain ⟨w1, w2⟩ := land_wal n hn20
          generalize hA : (if 0 ≤ Y 6 (7 + v) - Y 6 (40 + w) / 2 then Y 6 (7 + v) - Y 6 (40 + w) / 2 else 0) = A at hinc
          generalize hB : (if nI n ≤ 18 then nI n + 2 else 20) = B at w1 w2
          have e6 : d_X6_land R (nI v) (nI w) = (A, pt (pt (pt X (31 + 2 * w) 1 1) (25 + v) 4 A) (25 + v) 5 B) := by
            rw [d_X6_land]
            refine (oc_some e1).trans ((oc_some e3).trans ((if_pos (by rw [q1]; exact b1)).trans ((if_pos (by rw [q2]; exact b2)).trans ((lt_eq hS).trans ?_))))
            rw [hX]
            have z1 : pt X (31 + 2 * w) 1 1 (25 + v) 4 = Y 6 (7 + v) := by rw [pt_o (by omega), p4]
            have z2 : pt X (31 + 2 * w) 1 1 (31 + 2 * w) 3 = Y 6 (40 + w) := by rw [pt_o (by omega), p3]
            rw [z1, z2, imax_eq, hA]
            have z3 : pt (pt X (31 + 2 * w) 1 1) (25 + v) 4 A (25 + v) 5 = nI n := by rw [pt_o (by omega), pt_o (by omega), p5, pw]
            rw [z3, w1, pt_o (by omega), pt_i]
          have e7 : d_X7_land M (nI v) (nI w) = (A, pt (pt (pt Y 6 (43 + w) 1) 6 (7 + v) A) 6 (13 + v) B) := by
            rw [d_X7_land, c0, c2]
            refine (lt_eq e2.symm).trans ((if_neg n1).trans ((lt_eq e4.symm).trans ((if_neg n1).trans ((if_neg (by rw [b1]; exact n0)).trans ((if_neg (by rw [b2]; exact n0)).trans ((lt_eq hu).trans ?_))))))
            rw [hY]
            have z1 : pt Y 6 (43 + w) 1 6 (7 + v) = Y 6 (7 + v) := pt_o (by omega)
            have z2 : pt Y 6 (43 + w) 1 6 (40 + w) = Y 6 (40 + w) := pt_o (by omega)
            have z3 : ∀ z, pt (pt Y 6 (43 + w) 1) 6 (7 + v) z 6 (13 + v) = nI n := fun z => by rw [pt_o (by omega), pt_o (by omega), pw]
            have z4 : ∀ z z', pt (pt (pt Y 6 (43 + w) 1) 6 (7 + v) z) 6 (13 + v) z' 6 (7 + v) = z := fun z z' => by rw [pt_o (by omega), pt_i]
            rw [z1, z2]
            refine (lt_eq rfl).trans ?_
            by_cases g : 0 ≤ Y 6 (7 + v) - Y 6 (40 + w) / 2
            · rw [if_pos g] at hA
              rw [hA] at g ⊢
              refine (if_pos g).trans ?_
              rw [z3]
              by_cases g2 : nI n ≤ 18
              · rw [if_pos g2] at hB
                rw [hB]
                exact (if_pos g2).trans ((lt_eq rfl).trans (lt_eq (z4 A B).symm))
              · rw [if_neg g2] at hB
                rw [hB]
                exact (if_neg g2).trans (lt_eq (z4 A B).symm)
            · rw [if_neg g] at hA
              subst hA
              refine (if_neg g).trans ?_
              rw [z3]
              by_cases g2 : nI n ≤ 18
              · rw [if_pos g2] at hB
                rw [hB]
                exact (if_pos g2).trans ((lt_eq rfl).trans (lt_eq (z4 0 B).symm))
              · rw [if_neg g2] at hB
                rw [hB]
                exact (if_neg g2).trans (lt_eq (z4 0 B).symm)
          rw [e6, e7]
          refine ⟨rfl, hI _ _ (fun q hq => by dsimp only; rw [pt_k (by omega), pt_k (by omega), pt_k (by omega)]) (fun q hq => by dsimp only; rw [pt_k hq, pt_k hq, pt_k hq]) ?_⟩
          dsimp only
          rw [shf_pt (i := 22) (n := 3 + v) (by omega), shf_pt (i := 22) (n := 3 + v) (by omega), shf_pt (i := 22) (n := 9 + 2 * w) (by omega), pt_eq, pt_eq, pt_eq]
          have k1' := RS_uc (z := 1) hT hC hn hw (Or.inl ⟨rfl, rfl, Or.inr rfl⟩) (RG_up1 hT hC hn.2.2.1 (fun _ _ w => absurd w (by omega)) (fun _ _ w => absurd w (by omega)) (fun _ _ w => absurd w (by omega)) (fun _ _ w => absurd w (by omega)) (fun _ _ w => absurd w (by omega)) (fun _ _ _ _ w => absurd w (by omega)))
          have k2' := RS_ut (z := A) hT hC k1' hv (Or.inr (Or.inr (Or.inl ⟨rfl, rfl⟩))) (RG_up1 hT hC k1'.2.2.1 (fun _ _ w => absurd w (by omega)) (fun _ _ w => absurd w (by omega)) (fun _ _ _ => hinc) (fun _ _ w => absurd w (by omega)) (fun _ _ w => absurd w (by omega)) (fun _ _ _ _ w => absurd w (by omega))) (ZR_up1 k1'.2.2.2 (fun _ _ w => absurd w (by omega)) (fun _ _ w => absurd w (by omega)))
          exact RS_ut (z := B) hT hC k2' hv (Or.inr (Or.inr (Or.inr (Or.inl ⟨rfl, rfl⟩)))) (RG_up1 hT hC k2'.2.2.1 (fun _ _ w => absurd w (by omega)) (fun _ _ w => absurd w (by omega)) (fun _ _ w => absurd w (by omega)) (fun _ _ w => absurd w (by omega)) (fun _ _ w => absurd w (by omega)) (fun _ _ _ _ w => absurd w (by omega))) (ZR_up1 k2'.2.2.2 (fun _ _ w => absurd w (by omega)) (fun _ _ _ => ⟨min 20 (n + 2), by omega, w2⟩))
        · have e6 : d_X6_land R (nI v) (nI w) = (-2, R) := by rw [d_X6_land]; exact (oc_some e1).trans ((oc_some e3).trans ((if_pos (by rw [q1]; exact b1)).trans (if_neg (by rw [q2, b2]; exact n1))))
          have e7 : d_X7_land M (nI v) (nI w) = (-2, M) := by
            rw [d_X7_land, c0, c2]; exact (lt_eq e2.symm).trans ((if_neg n1).trans ((lt_eq e4.symm).trans ((if_neg n1).trans ((if_neg (by rw [b1]; exact n0)).trans (if_pos b2)))))
          rw [e6, e7]; exact ⟨rfl, h⟩
      · have e6 : d_X6_land R (nI v) (nI w) = (-2, R) := by rw [d_X6_land]; exact (oc_some e1).trans ((oc_some e3).trans (if_neg (by rw [q1, b1]; exact n1)))
        have e7 : d_X7_land M (nI v) (nI w) = (-2, M) := by
          rw [d_X7_land, c0, c2]; exact (lt_eq e2.symm).trans ((if_neg n1).trans ((lt_eq e4.symm).trans ((if_neg n1).trans (if_pos b1))))
        rw [e6, e7]; exact ⟨rfl, h⟩
    · have e6 : d_X6_land R (nI v) c = (-1, R) := by rw [d_X6_land]; exact (oc_some e1).trans (oc_none e3)
      have e7 : d_X7_land M (nI v) c = (-1, M) := by rw [d_X7_land]; exact (lt_eq e2.symm).trans ((if_neg n1).trans ((lt_eq e4.symm).trans (if_pos rfl)))
      rw [e6, e7]; exact ⟨rfl, h⟩
  · have e6 : d_X6_land R t c = (-1, R) := by rw [d_X6_land]; exact (oc_none e1).trans (by cases d_X3_crewAt (shf R 22) c <;> rfl)
    have e7 : d_X7_land M t c = (-1, M) := by rw [d_X7_land]; exact (lt_eq e2.symm).trans (if_pos rfl)
    rw [e6, e7]; exact ⟨rfl, h⟩
