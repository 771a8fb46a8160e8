/-! forget, found -/
/-- numbers outside what was found change nothing else of the invariant -/
theorem Inv_find {R M R' M' : Nat → Nat → Int32} (h : Inv R M) (er : ∀ q, q < 209 ∨ 213 ≤ q → R' q = R q) (em : ∀ q, q ≠ 0 → q ≠ 11 → M' q = M q) (e0 : ∀ j, j ≠ 21 → M' 0 j = M 0 j) (hf : ∀ T, M 0 10 = nI T → T ≤ 6 → IFind T (shf R' 209) (M' 0 21) (M' 11)) : Inv R' M' := by
  obtain ⟨T, C, hT, hC, t1, c1, k1, hl, hnow, hlaid, htr, hp, hk, -⟩ := h
  refine ⟨T, C, hT, hC, ?_, ?_, ?_, ?_, ?_, ⟨?_, ?_⟩, ?_, ?_, ?_, hf T t1 hT⟩
  · rw [e0 10 (by decide)]; exact t1
  · rw [e0 11 (by decide)]; exact c1
  · rw [e0 12 (by decide)]; exact k1
  · rw [er 0 (by omega), er 1 (by omega), e0 0 (by decide), em 1 (by decide) (by decide)]; exact hl
  · rw [em 5 (by decide) (by decide), em 6 (by decide) (by decide), e0 12 (by decide)]
    exact RS_to hT hnow (fun k _ => er (22 + k) (by omega))
  · rw [em 5 (by decide) (by decide), em 7 (by decide) (by decide), e0 12 (by decide)]
    exact RS_to hT hlaid.1 (fun k _ => er (4 + k) (by omega))
  · rw [em 7 (by decide) (by decide)]; exact hlaid.2
  · intro c hc
    rw [er _ (by omega)]; exact htr c hc
  · rw [em 5 (by decide) (by decide), em 9 (by decide) (by decide), e0 12 (by decide), e0 18 (by decide)]
    exact IShelf_to hT hp (fun k _ => er (55 + k) (by omega)) (by decide)
  · rw [em 5 (by decide) (by decide), em 10 (by decide) (by decide), e0 12 (by decide), e0 20 (by decide)]
    exact IShelf_to hT hk (fun k _ => er (177 + k) (by omega)) (by decide)
theorem Inv.find {R M : Nat → Nat → Int32} (h : Inv R M) : ∃ T, T ≤ 6 ∧ M 0 10 = nI T ∧ IFind T (shf R 209) (M 0 21) (M 11) := by
  obtain ⟨T, C, hT, hC, t1, c1, k1, hl, hnow, hlaid, htr, hp, hk, hf⟩ := h
  exact ⟨T, hT, t1, hf⟩
theorem nI_inj6 {T U : Nat} (hT : T ≤ 6) (hU : U ≤ 6) (h : nI T = nI U) : T = U := (nI_eq (by omega) (by omega)).mp h
theorem s_forget {R M : Nat → Nat → Int32} (h : Inv R M) : (d_X6_forget R).1 = (d_X7_forget M).1 ∧ Inv (d_X6_forget R).2 (d_X7_forget M).2 := by
  obtain ⟨T, hT, t1, n, hn, hx, hy, hr, hi⟩ := h.find
  refine ⟨by show R 209 3 = M 0 21; rw [hy]; exact hx, Inv_find h (fun q hq => ?_) (fun q q0 q1 => ?_) (fun j hj => ?_) (fun U hU hU6 => ⟨0, by omega, ?_, ?_, fun i hi' => ?_, fun i hi' => absurd hi' (by omega)⟩)⟩
  · show pt R 209 3 0 q = R q; exact pt_k (by omega)
  · show pt M 0 21 0 q = M q; exact pt_k q0
  · show pt M 0 21 0 0 j = M 0 j; rw [pt_eq, up_o hj]
  · show pt R 209 3 0 (209 + 0) 3 = _; rw [pt_eq, up_e]; exact nI_0.symm
  · show pt M 0 21 0 0 21 = _; rw [pt_eq, up_e]; exact nI_0.symm
  · show rg 20 (pt R 209 3 0 (209 + 2) i) ∧ rg 5 (pt M 0 21 0 11 (3 * i))
    rw [pt_k (by omega), pt_k (by decide)]
    exact hr i hi'
theorem add_eq {f : Nat → Nat → Int32} {n : Nat} {t spring silver : Int32} (hn : n ≤ 6) (hx : f 0 3 = nI n) : d_X1_add f t spring silver = if n = 6 then (0, f) else (1, pt (pt (pt (pt f 1 n t) 2 n spring) 3 n silver) 0 3 (nI (n + 1))) := by
  have c0 : (nI n).toNatClampNeg = n := nI_clamp (by omega)
  rw [d_X1_add, hx, c0, nI_1]
  refine (if_neg (nI_pos (by omega))).trans ?_
  by_cases h : n = 6
  · rw [if_pos h]; exact if_neg (by subst h; decide)
  · rw [if_neg h]; exact if_pos (nI_lt (b := 6) (by omega) (by decide))
theorem s_found {R M : Nat → Nat → Int32} {t spring silver : Int32} (h : Inv R M) : (d_X6_found R t spring silver).1 = (d_X7_found M t spring silver).1 ∧ Inv (d_X6_found R t spring silver).2 (d_X7_found M t spring silver).2 := by
  have h' := h
  obtain ⟨T, C, hT, hC, t1, c1, k1, hl, hnow, hlaid, htr, hp, hk, n, hn, hx, hy, hr, hi⟩ := h'
  have bad : ∀ {X Y : Int32 × (Nat → Nat → Int32)}, X = (-1, R) → Y = (-1, M) → X.1 = Y.1 ∧ Inv X.2 Y.2 := fun e1 e2 => by rw [e1, e2]; exact ⟨rfl, h⟩
  rcases town_cases (Q := shf M 0) (t := t) hT t1 (RS_t hnow) with ⟨u, hu, rfl, e1, e2⟩ | ⟨e1, e2⟩
  · by_cases g1 : spring < 1
    · exact bad (by rw [d_X6_found]; exact (oc_some e1).trans (if_pos g1)) (by rw [d_X7_found]; exact (lt_eq e2.symm).trans ((if_neg (by decide)).trans ((lt_eq (in_eq.trans (if_pos (Or.inl g1))).symm).trans (if_pos rfl))))
    · by_cases g2 : 20 < spring
      · exact bad (by rw [d_X6_found]; exact (oc_some e1).trans ((if_neg g1).trans (if_neg (fun w => Int32.not_lt.mpr w g2)))) (by rw [d_X7_found]; exact (lt_eq e2.symm).trans ((if_neg (by decide)).trans ((lt_eq (in_eq.trans (if_pos (Or.inr g2))).symm).trans (if_pos rfl))))
      · have i1 : d_X7_in spring 1 20 = 1 := in_eq.trans (if_neg (fun w => w.elim g1 g2))
        have g2' : spring ≤ 20 := Int32.not_lt.mp g2
        by_cases g3 : silver < 0
        · exact bad (by rw [d_X6_found]; exact (oc_some e1).trans ((if_neg g1).trans ((if_pos g2').trans (if_pos g3)))) (by rw [d_X7_found]; exact (lt_eq e2.symm).trans ((if_neg (by decide)).trans ((lt_eq i1.symm).trans ((if_neg (by decide)).trans ((lt_eq (in_eq.trans (if_pos (Or.inl g3))).symm).trans (if_pos rfl))))))
        · by_cases g4 : 999 < silver
          · exact bad (by rw [d_X6_found]; exact (oc_some e1).trans ((if_neg g1).trans ((if_pos g2').trans ((if_neg g3).trans (if_neg (fun w => Int32.not_lt.mpr w g4)))))) (by rw [d_X7_found]; exact (lt_eq e2.symm).trans ((if_neg (by decide)).trans ((lt_eq i1.symm).trans ((if_neg (by decide)).trans ((lt_eq (in_eq.trans (if_pos (Or.inr g4))).symm).trans (if_pos rfl))))))
          · have i2 : d_X7_in silver 0 999 = 1 := in_eq.trans (if_neg (fun w => w.elim g3 g4))
            have g4' : silver ≤ 999 := Int32.not_lt.mp g4
            have hadd := add_eq (t := nI u) (spring := spring) (silver := silver) hn hx
            have c0 : (nI n).toNatClampNeg = n := nI_clamp (by omega)
            by_cases g5 : n = 6
            · rw [if_pos g5] at hadd
              have e6 : d_X6_found R (nI u) spring silver = (-3, spl R 209 4 (shf R 209)) := by
                rw [d_X6_found]; exact (oc_some e1).trans ((if_neg g1).trans ((if_pos g2').trans ((if_neg g3).trans ((if_pos g4').trans ((lt_eq hadd.symm).trans (if_pos rfl))))))
              have e7 : d_X7_found M (nI u) spring silver = (-3, M) := by
                rw [d_X7_found]; exact (lt_eq e2.symm).trans ((if_neg (by decide)).trans ((lt_eq i1.symm).trans ((if_neg (by decide)).trans ((lt_eq i2.symm).trans ((if_neg (by decide)).trans (if_pos (by rw [hy, g5]; rfl)))))))
              have es : spl R 209 4 (shf R 209) = R := by
                funext q
                unfold spl
                by_cases w : 209 ≤ q ∧ q < 209 + 4
                · rw [if_pos w]; show R (209 + (q - 209)) = R q; rw [show 209 + (q - 209) = q by omega]
                · rw [if_neg w]
              rw [e6, e7, es]; exact ⟨rfl, h⟩
            · rw [if_neg g5] at hadd
              generalize hA : pt (pt (pt (pt (shf R 209) 1 n (nI u)) 2 n spring) 3 n silver) 0 3 (nI (n + 1)) = A at hadd
              have e6 : d_X6_found R (nI u) spring silver = (A 0 3, spl R 209 4 A) := by
                rw [d_X6_found]; exact (oc_some e1).trans ((if_neg g1).trans ((if_pos g2').trans ((if_neg g3).trans ((if_pos g4').trans ((lt_eq hadd.symm).trans (if_neg (show ¬ (1 : Int32) = 0 by decide)))))))
              have e7 : d_X7_found M (nI u) spring silver = (nI (n + 1), pt (pt (pt (pt M 11 (3 * n) (nI u)) 11 (3 * n + 1) spring) 11 (3 * n + 2) silver) 0 21 (nI (n + 1))) := by
                rw [d_X7_found, hy, c0]; exact (lt_eq e2.symm).trans ((if_neg (by decide)).trans ((lt_eq i1.symm).trans ((if_neg (by decide)).trans ((lt_eq i2.symm).trans ((if_neg (by decide)).trans (if_neg (fun w => g5 ((nI_eq (b := 6) (by omega) (by decide)).mp w))))))))
              have a0 : A 0 3 = nI (n + 1) := by rw [← hA, pt_eq, up_e]
              have a1 : A 1 = upd (R 210) n (nI u) := by rw [← hA, pt_k (by decide), pt_k (by decide), pt_k (by decide), pt_eq]; rfl
              have a2 : A 2 = upd (R 211) n spring := by rw [← hA, pt_k (by decide), pt_k (by decide), pt_eq, pt_k (by decide)]; rfl
              have a3 : A 3 = upd (R 212) n silver := by rw [← hA, pt_k (by decide), pt_eq, pt_k (by decide), pt_k (by decide)]; rfl
              have s209 : ∀ k, k < 4 → shf (spl R 209 4 A) 209 k = A k := fun k hk => by
                show spl R 209 4 A (209 + k) = _
                rw [spl_in (by omega), show 209 + k - 209 = k by omega]
              rw [e6, e7]
              dsimp only
              generalize hB : pt (pt (pt (pt M 11 (3 * n) (nI u)) 11 (3 * n + 1) spring) 11 (3 * n + 2) silver) 0 21 (nI (n + 1)) = B
              have b11 : B 11 = upd (upd (upd (M 11) (3 * n) (nI u)) (3 * n + 1) spring) (3 * n + 2) silver := by rw [← hB, pt_k (by decide), pt_eq, pt_eq, pt_eq]
              have b0 : B 0 21 = nI (n + 1) := by rw [← hB, pt_eq, up_e]
              have hsp : rg 20 spring := rg_in (fun w => g1 (Int32.lt_trans w (by decide))) g2 (by decide)
              refine ⟨a0, Inv_find h (fun q hq => spl_out (by omega)) (fun q q0 q1 => by rw [← hB, pt_k q0, pt_k q1, pt_k q1, pt_k q1]) (fun j hj => by rw [← hB, pt_eq, up_o hj, pt_k (by decide), pt_k (by decide), pt_k (by decide)]) (fun U hU hU6 => ⟨n + 1, by omega, by rw [s209 0 (by omega)]; exact a0, b0, fun i hi' => ?_, fun i hi' => ?_⟩)⟩
              · rw [s209 2 (by omega), a2, b11]
                by_cases hin : i = n
                · subst hin
                  rw [up_e, up_o (by omega), up_o (by omega), up_e]
                  exact ⟨hsp, u, by omega, rfl⟩
                · rw [up_o hin, up_o (by omega), up_o (by omega), up_o (by omega)]
                  exact hr i hi'
              · have hUT : U = T := nI_inj6 hU6 hT (by rw [← hU, t1])
                subst hUT
                rw [s209 1 (by omega), s209 2 (by omega), s209 3 (by omega), a1, a2, a3, b11]
                by_cases hin : i = n
                · subst hin
                  rw [up_e, up_e, up_e, up_o (by omega), up_o (by omega), up_e, up_o (by omega), up_e, up_e]
                  exact ⟨⟨u, hu, rfl, rfl⟩, rfl, rfl, fun w => g1 (by rw [w]; decide)⟩
                · rw [up_o hin, up_o hin, up_o hin, up_o (by omega), up_o (by omega), up_o (by omega), up_o (by omega), up_o (by omega), up_o (by omega), up_o (by omega), up_o (by omega), up_o (by omega)]
                  exact hi i (by omega)
  · exact bad (by rw [d_X6_found]; exact oc_none e1) (by rw [d_X7_found]; exact (lt_eq e2.symm).trans (if_pos rfl))
