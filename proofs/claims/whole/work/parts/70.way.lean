/-! way, land, raise, pass -/
theorem s_way {R M : Nat → Nat → Int32} {t k : Int32} (h : Inv R M) : (d_X6_way R t k).1 = (d_X7_way M t k).1 ∧ Inv (d_X6_way R t k).2 (d_X7_way M t k).2 := by
  obtain ⟨T, C, hT, hC, t1, c1, k1, hnow, S, u, X, Y, hS, hu, hX, hY, x0, y0, e0, hn, hI⟩ := noted h
  rcases town_cases (Q := shf M 0) (t := t) hT t1 (RS_t hnow) with ⟨v, hv, rfl, e1, e2⟩ | ⟨e1, e2⟩
  · have c0 : (nI v).toNatClampNeg = v := nI_clamp (by omega)
    have n1 : ¬ (1 : Int32) = 0 := by decide
    by_cases g1 : k < 0
    · have e6 : d_X6_way R (nI v) k = (-1, R) := by rw [d_X6_way]; exact (oc_some e1).trans (if_pos g1)
      have e7 : d_X7_way M (nI v) k = (-1, M) := by
        rw [d_X7_way]; exact (lt_eq e2.symm).trans ((if_neg n1).trans ((lt_eq (y := 0) (by rw [in_eq, if_pos (Or.inl g1)])).trans (if_pos rfl)))
      rw [e6, e7]; exact ⟨rfl, h⟩
    · by_cases g2 : k < 4
      · have hi : d_X7_in k 0 3 = 1 := by
          rw [in_eq, if_neg]
          rintro (w | w)
          · exact g1 w
          · obtain ⟨n, hn, rfl⟩ := rg_in (N := 4) g1 (fun z => Int32.lt_asymm g2 z) (by decide)
            have := (nI_ltI (a := 3) (b := n) (by decide) (by omega)).mp w
            have := (nI_ltI (a := n) (b := 4) (by omega) (by decide)).mp g2
            omega
        have e6 : d_X6_way R (nI v) k = (X (25 + v) 6, pt X (25 + v) 6 k) := by
          rw [d_X6_way, ← hX]; exact (oc_some e1).trans ((if_neg g1).trans ((if_pos g2).trans (lt_eq hS)))
        have e7 : d_X7_way M (nI v) k = (M 6 (19 + v), pt Y 6 (19 + v) k) := by
          rw [d_X7_way, ← hY, c0]; exact (lt_eq e2.symm).trans ((if_neg n1).trans ((lt_eq hi.symm).trans ((if_neg n1).trans (lt_eq hu))))
        rw [e6, e7]
        have q6 : X (25 + v) 6 = Y 6 (19 + v) := by
          have z := (RS_T hn hv).2.2.2.2.2.1
          have z2 : shf X 22 (3 + v) = X (25 + v) := by show X (22 + (3 + v)) = _; rw [show 22 + (3 + v) = 25 + v by omega]
          rw [z2] at z; exact z
        refine ⟨by dsimp only; rw [q6, y0 6 (by decide) (by decide)], hI _ _ (fun q hq => pt_k (by omega)) (fun q hq => pt_k hq) ?_⟩
        dsimp only
        rw [shf_pt (i := 22) (n := 3 + v) (by omega), pt_eq]
        exact RS_ut hT hC hn hv (Or.inr (Or.inr (Or.inr (Or.inr (Or.inl ⟨rfl, rfl⟩))))) (RG_up1 hT hC hn.2.2.1 (fun _ _ w => absurd w (by omega)) (fun _ _ w => absurd w (by omega)) (fun _ _ w => absurd w (by omega)) (fun _ _ w => absurd w (by omega)) (fun _ _ w => absurd w (by omega)) (fun _ _ _ _ w => absurd w (by omega))) (ZR_up1 hn.2.2.2 (fun _ _ w => absurd w (by omega)) (fun _ _ w => absurd w (by omega)))
      · have hi : d_X7_in k 0 3 = 0 := by rw [in_eq, if_pos (Or.inr (Int32.lt_of_lt_of_le (by decide) (Int32.not_lt.mp g2)))]
        have e6 : d_X6_way R (nI v) k = (-1, R) := by rw [d_X6_way]; exact (oc_some e1).trans ((if_neg g1).trans (if_neg g2))
        have e7 : d_X7_way M (nI v) k = (-1, M) := by
          rw [d_X7_way]; exact (lt_eq e2.symm).trans ((if_neg n1).trans ((lt_eq hi.symm).trans (if_pos rfl)))
        rw [e6, e7]; exact ⟨rfl, h⟩
  · have e6 : d_X6_way R t k = (-1, R) := by rw [d_X6_way]; exact oc_none e1
    have e7 : d_X7_way M t k = (-1, M) := by rw [d_X7_way]; exact (lt_eq e2.symm).trans (if_pos rfl)
    rw [e6, e7]; exact ⟨rfl, h⟩
theorem pass_loop {T C N : Nat} {M : Nat → Nat → Int32} (hT : T ≤ 6) (hC : C ≤ 3) (t1 : M 0 10 = nI T) (c1 : M 0 11 = nI C) (hN : N < 2 ^ 31) : ∀ (n k : Nat) (R : Nat → Nat → Int32), k ≤ N → N < k + n → R 0 10 = M 0 10 → R 0 11 = M 0 11 → R 0 12 = M 0 12 → R 5 = M 5 → (∀ q, q ≠ 6 → d_X7_pass_L18 (nI N) n R k q = R q) ∧ d_X7_pass_L18 (nI N) n R k 6 = itA (M 5) T C (M 0 12) (N - k) (R 6) := by
  intro n
  induction n with
  | zero => intro k R h1 h2; exact absurd h2 (by omega)
  | succ n ih =>
    intro k R h1 h2 a1 a2 a3 a4
    by_cases g : N ≤ k
    · have e : d_X7_pass_L18 (nI N) (n + 1) R k = R := by rw [d_X7_pass_L18]; exact if_pos (nI_le g (by omega))
      rw [e, show N - k = 0 by omega]; exact ⟨fun _ _ => rfl, rfl⟩
    · have hs := spring_eq (M := shf R 0) (q := shf R 5) (R := shf R 6) (T := T) (C := C) (a1.trans t1) hT (a2.trans c1) hC
      have e : d_X7_pass_L18 (nI N) (n + 1) R k = d_X7_pass_L18 (nI N) n (spl R 6 1 (d_X7_spring (shf R 0) (shf R 5) (shf R 6))) (k + 1) := by rw [d_X7_pass_L18]; exact (if_neg (nI_ge (by omega) (by omega))).trans (lt_eq rfl)
      generalize d_X7_spring (shf R 0) (shf R 5) (shf R 6) = w at hs e
      obtain ⟨g1, g2⟩ := ih (k + 1) (spl R 6 1 w) (by omega) (by omega) (by rw [spl_out (by omega)]; exact a1) (by rw [spl_out (by omega)]; exact a2) (by rw [spl_out (by omega)]; exact a3) (by rw [spl_out (by omega)]; exact a4)
      rw [e]
      refine ⟨fun q hq => by rw [g1 q hq, spl_out (by omega)], ?_⟩
      rw [g2, show N - k = (N - (k + 1)) + 1 by omega, itA, spl_in (by omega)]
      congr 1
      rw [show 6 - 6 = 0 by decide, hs]
      show sprA (R 5) T C (R 0 12) (R 6) = _
      rw [a3, a4]
theorem s_pass {R M : Nat → Nat → Int32} {n : Int32} (h : Inv R M) : (d_X6_pass R n).1 = (d_X7_pass M n).1 ∧ Inv (d_X6_pass R n).2 (d_X7_pass M n).2 := by
  obtain ⟨T, C, hT, hC, t1, c1, k1, hnow, S, u, X, Y, hS, hu, hX, hY, x0, y0, e0, hn, hI⟩ := noted h
  have n1 : ¬ (1 : Int32) = 0 := by decide
  by_cases g1 : n < 1
  · have e6 : d_X6_pass R n = (-1, R) := by rw [d_X6_pass]; exact if_pos g1
    have e7 : d_X7_pass M n = (-1, M) := by rw [d_X7_pass]; exact (lt_eq (y := 0) (by rw [in_eq, if_pos (Or.inl g1)])).trans (if_pos rfl)
    rw [e6, e7]; exact ⟨rfl, h⟩
  · by_cases g2 : 10 < n
    · have e6 : d_X6_pass R n = (-1, R) := by rw [d_X6_pass]; exact (if_neg g1).trans (if_neg (Int32.not_le.mpr g2))
      have e7 : d_X7_pass M n = (-1, M) := by rw [d_X7_pass]; exact (lt_eq (y := 0) (by rw [in_eq, if_pos (Or.inr g2)])).trans (if_pos rfl)
      rw [e6, e7]; exact ⟨rfl, h⟩
    · obtain ⟨N, hN, rfl⟩ := rg_in (N := 10) (fun w => g1 (Int32.lt_trans w (by decide))) g2 (by decide)
      have hgo := RS_go hT hC k1 (N := N) (by omega) hn
      have e6 : d_X6_pass R (nI N) = (d_X3_goBy (shf X 22) (nI N) 0 3, spl X 22 15 (d_X3_goBy (shf X 22) (nI N))) := by
        rw [d_X6_pass, ← hX]; exact (if_neg g1).trans ((if_pos (Int32.not_lt.mp g2)).trans ((lt_eq hS).trans (lt_eq rfl)))
      generalize d_X3_goBy (shf X 22) (nI N) = w at hgo e6
      obtain ⟨p1, p2⟩ := pass_loop hT hC t1 c1 (N := N) (by omega) 11 0 Y (by omega) (by omega) (e0 10 (by decide)) (e0 11 (by decide)) (e0 12 (by decide)) (y0 5 (by decide) (by decide))
      rw [Nat.sub_zero] at p2
      have e7 : d_X7_pass M (nI N) = (d_X7_pass_L18 (nI N) 11 Y 0 6 0, d_X7_pass_L18 (nI N) 11 Y 0) := by
        rw [d_X7_pass, ← hY]; exact (lt_eq (y := 1) (by rw [in_eq, if_neg (fun w => w.elim g1 g2)])).trans ((if_neg n1).trans ((lt_eq hu).trans (lt_eq rfl)))
      generalize d_X7_pass_L18 (nI N) 11 Y 0 = z at p1 p2 e7
      rw [e6, e7]
      have hq : w 0 3 = z 6 0 := by
        rw [p2]
        obtain ⟨⟨go, g, -⟩, -⟩ := hgo
        exact g.2.2.2.2.2.2
      refine ⟨hq, hI _ _ (fun q hq => spl_out (by omega)) p1 ?_⟩
      dsimp only
      rw [p2]
      refine RS_to hT hgo (fun k hk => ?_)
      show spl X 22 15 w (22 + k) = w k
      rw [spl_in (by omega), show 22 + k - 22 = k by omega]
