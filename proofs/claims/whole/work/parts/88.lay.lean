/-! lay -/
theorem RS_kd {T C : Nat} {kd kd' : Nat → Int32} {cost : Int32} {r : Nat → Nat → Int32} {a : Nat → Int32} (h : RS T C kd cost r a) (e : ∀ t, t < T → kd' t = kd t) : RS T C kd' cost r a := by
  obtain ⟨⟨go, ⟨w1, w2, w3, w4, w5, w6, w7⟩, w8⟩, w9⟩ := h
  refine ⟨⟨go, ⟨w1, fun t ht => ?_, w3, w4, w5, w6, w7⟩, w8⟩, w9⟩
  have z := w2 t ht
  unfold RT at z ⊢
  rw [e t ht]; exact z
theorem kind_loop {T : Nat} (hT : T ≤ 6) : ∀ n t (M : Nat → Nat → Int32), M 0 10 = nI T → t ≤ 6 → 6 < t + n → (∀ q, q ≠ 5 → d_X7_lay_L50 n M t q = M q) ∧ (∀ j, j < t → d_X7_lay_L50 n M t 5 j = M 5 j) ∧ ∀ j, t ≤ j → j < T → d_X7_lay_L50 n M t 5 j = M 3 j := by
  intro n
  induction n with
  | zero => intro t M _ h1 h2; exact absurd h2 (by omega)
  | succ n ih =>
    intro t M h10 h1 h2
    by_cases g : T ≤ t
    · have e : d_X7_lay_L50 (n + 1) M t = M := by rw [d_X7_lay_L50, h10]; exact if_pos (nI_le g (by omega))
      rw [e]; exact ⟨fun _ _ => rfl, fun _ _ => rfl, fun j h3 h4 => absurd h4 (by omega)⟩
    · have e : d_X7_lay_L50 (n + 1) M t = d_X7_lay_L50 n (pt M 5 t (M 3 t)) (t + 1) := by rw [d_X7_lay_L50, h10]; exact if_neg (nI_ge (by omega) (by omega))
      obtain ⟨g1, g2, g3⟩ := ih (t + 1) (pt M 5 t (M 3 t)) (by rw [pt_k (by decide)]; exact h10) (by omega) (by omega)
      rw [e]
      refine ⟨fun q hq => by rw [g1 q hq, pt_k hq], fun j hj => by rw [g2 j (by omega), pt_o (by omega)], fun j h3 h4 => ?_⟩
      by_cases z : j = t
      · subst z; rw [g2 j (by omega), pt_i]
      · rw [g3 j (by omega) h4, pt_k (by decide)]
theorem IShelf_0 {N T C T' C' : Nat} {kd kd' : Nat → Int32} {cost cost' : Int32} {s s' : Nat → Nat → Int32} {y : Int32} {bk bk' : Nat → Int32} (h : IShelf N T C kd cost s y bk) (e0 : s' 0 1 = 0) (e : ∀ k, 0 < k → k < 2 + 15 * N → s' k = s k) (hN : 0 < N) : IShelf N T' C' kd' cost' s' 0 bk' := by
  obtain ⟨n, hn, h1, h2, h3, h4, h5, h6⟩ := h
  refine ⟨0, by omega, by rw [e0]; rfl, rfl, fun j hj => by rw [e 1 (by omega) (by omega)]; exact h3 j hj, fun i j hi hj => by rw [e 1 (by omega) (by omega)]; exact h4 i j hi hj, fun w hw c hc => ?_, fun i w hi => absurd hi (by omega)⟩
  rw [e _ (by omega) (by omega)]; exact h5 w hw c hc
theorem s_lay {R M : Nat → Nat → Int32} (h : Inv R M) : (d_X6_lay R).1 = (d_X7_lay M).1 ∧ Inv (d_X6_lay R).2 (d_X7_lay M).2 := by
  have n1 : ¬ (1 : Int32) = 0 := by decide
  obtain ⟨Rd', r', M', hs, hf, hh⟩ := read_all h
  have hI := Inv_read (Rd' := Rd') h hs hf
  rcases hh with ⟨q, hq, y1, y2, y3⟩ | ⟨T', C', y1, y2, y3⟩
  · have e6 : d_X6_lay R = (-2, spl (spl R 2 2 Rd') 40 15 r') := by rw [d_X6_lay]; exact (lt_eq y1.symm).trans (if_neg (nI_ne4 (s := q) (by omega)))
    have e7 : d_X7_lay M = (-2, M') := by rw [d_X7_lay]; exact (lt_eq y2.symm).trans (if_pos rfl)
    rw [e6, e7]; exact ⟨rfl, hI⟩
  · obtain ⟨hT, hC, s5, s6, s7, hRS, hZX, hZB⟩ := y3
    have e6a : d_X6_lay R = lt (d_X3_townsThere (shf (spl (spl R 2 2 Rd') 40 15 r') 40)) fun u9 => if u9 = 0 then ((-2 : Int32), spl (spl R 2 2 Rd') 40 15 r') else lt (d_X3_crewsThere (shf (spl (spl R 2 2 Rd') 40 15 r') 40)) fun u19 => if u19 = 0 then ((-2 : Int32), spl (spl R 2 2 Rd') 40 15 r') else lt (d_X3_copy (shf (spl (spl R 2 2 Rd') 40 15 r') 4) (shf (spl (spl R 2 2 Rd') 40 15 r') 40)) fun u28 => lt (d_X3_copy (shf (spl (spl (spl R 2 2 Rd') 40 15 r') 4 15 u28) 22) (shf (spl (spl (spl R 2 2 Rd') 40 15 r') 4 15 u28) 4)) fun u34 => lt (d_X3_townsThere (shf (pt (pt (pt (spl (spl (spl (spl R 2 2 Rd') 40 15 r') 4 15 u28) 22 15 u34) 209 3 (0 : Int32)) 55 1 (0 : Int32)) 177 1 (0 : Int32)) 22)) fun u49 => (u49, (pt (pt (pt (spl (spl (spl (spl R 2 2 Rd') 40 15 r') 4 15 u28) 22 15 u34) 209 3 (0 : Int32)) 55 1 (0 : Int32)) 177 1 (0 : Int32))) := by
      rw [d_X6_lay]; exact (lt_eq y1.symm).trans (if_pos rfl)
    have x40 : ∀ k, k < 15 → shf (spl (spl R 2 2 Rd') 40 15 r') 40 k = r' k := fun k hk => by
      show spl (spl R 2 2 Rd') 40 15 r' (40 + k) = r' k
      rw [spl_in (by omega), show 40 + k - 40 = k by omega]
    generalize spl (spl R 2 2 Rd') 40 15 r' = X at hI e6a x40
    have hR40 : RS T' C' (M' 3) (M' 0 7) (shf X 40) (M' 4) := RS_to hT hRS x40
    have et := townsThere_eq hT (RS_t hR40)
    have ec := crewsThere_eq hC (RS_c hR40)
    by_cases g1 : T' = 0
    · have e6 : d_X6_lay R = (-2, X) := e6a.trans ((lt_eq et.symm).trans (if_pos (by rw [g1]; rfl)))
      have e7 : d_X7_lay M = (-2, M') := by rw [d_X7_lay]; exact (lt_eq y2.symm).trans ((if_neg n1).trans (if_pos (show M' 0 5 = 0 by rw [s5, g1]; rfl)))
      rw [e6, e7]; exact ⟨rfl, hI⟩
    · have g1' : ¬ nI T' = 0 := nI_ne0 (by omega) (by omega)
      by_cases g2 : C' = 0
      · have e6 : d_X6_lay R = (-2, X) := e6a.trans ((lt_eq et.symm).trans ((if_neg g1').trans ((lt_eq ec.symm).trans (if_pos (by rw [g2]; rfl)))))
        have e7 : d_X7_lay M = (-2, M') := by rw [d_X7_lay]; exact (lt_eq y2.symm).trans ((if_neg n1).trans ((if_neg (show ¬ M' 0 5 = 0 by rw [s5]; exact g1')).trans (if_pos (show M' 0 6 = 0 by rw [s6, g2]; rfl))))
        rw [e6, e7]; exact ⟨rfl, hI⟩
      · have g2' : ¬ nI C' = 0 := nI_ne0 (by omega) (by omega)
        obtain ⟨T, C, hT0, hC0, t1, c1, k1, hl, hnow, hlaid, htr, hp, hk, hfd⟩ := hI
        have e6b := e6a.trans ((lt_eq et.symm).trans ((if_neg g1').trans ((lt_eq ec.symm).trans ((if_neg g2').trans (lt_eq rfl)))))
        have k1' := RS_copy (r := shf X 4) hT hR40 (RS_sp hlaid.1)
        generalize d_X3_copy (shf X 4) (shf X 40) = u28 at k1' e6b
        have hR4 : RS T' C' (M' 3) (M' 0 7) (shf (spl X 4 15 u28) 4) (M' 4) := RS_to hT k1' (fun k hk => by
          show spl X 4 15 u28 (4 + k) = u28 k
          rw [spl_in (by omega), show 4 + k - 4 = k by omega])
        have hsp22 : ∀ c, c < 3 → shf (spl X 4 15 u28) 22 (9 + 2 * c) 4 = 0 := fun c hc => by
          show spl X 4 15 u28 (22 + (9 + 2 * c)) 4 = 0
          rw [spl_out (by omega)]; exact RS_sp hnow c hc
        have k2' := RS_copy (r := shf (spl X 4 15 u28) 22) hT hR4 hsp22
        have e6c := e6b.trans (lt_eq rfl)
        generalize d_X3_copy (shf (spl X 4 15 u28) 22) (shf (spl X 4 15 u28) 4) = u34 at k2' e6c
        have e6d := e6c.trans (lt_eq rfl)
        generalize hY : pt (pt (pt (spl (spl X 4 15 u28) 22 15 u34) 209 3 0) 55 1 0) 177 1 0 = Y at e6d
        have yo : ∀ q, q ≠ 209 → q ≠ 55 → q ≠ 177 → Y q = spl (spl X 4 15 u28) 22 15 u34 q := fun q a b c => by rw [← hY, pt_k c, pt_k b, pt_k a]
        have yo2 : ∀ q, q ≠ 209 → q ≠ 55 → q ≠ 177 → ¬ (4 ≤ q ∧ q < 19) → ¬ (22 ≤ q ∧ q < 37) → Y q = X q := fun q a b c d e => by rw [yo q a b c, spl_out (by omega), spl_out (by omega)]
        have hY22 : RS T' C' (M' 3) (M' 0 7) (shf Y 22) (M' 4) := RS_to hT k2' (fun k hk => by
          show Y (22 + k) = u34 k
          rw [yo _ (by omega) (by omega) (by omega), spl_in (by omega), show 22 + k - 22 = k by omega])
        have hY4 : RS T' C' (M' 3) (M' 0 7) (shf Y 4) (M' 4) := RS_to hT k1' (fun k hk => by
          show Y (4 + k) = u28 k
          rw [yo _ (by omega) (by omega) (by omega), spl_out (by omega), spl_in (by omega), show 4 + k - 4 = k by omega])
        rw [townsThere_eq hT (RS_t hY22)] at e6d
        have y209 : Y 209 3 = 0 := by rw [← hY, pt_k (by decide), pt_k (by decide), pt_i]
        have y209o : ∀ j, j ≠ 3 → Y 209 j = X 209 j := fun j hj => by rw [← hY, pt_k (by decide), pt_k (by decide), pt_eq, up_o hj, spl_out (by omega), spl_out (by omega)]
        have y55 : Y 55 1 = 0 := by rw [← hY, pt_k (by decide), pt_i]
        have y177 : Y 177 1 = 0 := by rw [← hY, pt_i]
        obtain ⟨l1, -, l3⟩ := kind_loop hT 7 0 (pt (pt (pt M' 0 10 (M' 0 5)) 0 11 (M' 0 6)) 0 12 (M' 0 7)) (by rw [pt_o (by decide), pt_o (by decide), pt_i]; exact s5) (by decide) (by decide)
        have e7a : d_X7_lay M = lt (d_X7_lay_L50 7 (pt (pt (pt M' 0 10 (M' 0 5)) 0 11 (M' 0 6)) 0 12 (M' 0 7)) 0) fun s44 => lt (d_X7_copy (shf s44 4) (shf s44 7) 64 64 (0 : Int32) (0 : Int32)) fun u48 => lt (d_X7_copy (shf (spl s44 7 1 u48) 4) (shf (spl s44 7 1 u48) 6) 64 64 (0 : Int32) (0 : Int32)) fun u54 => ((s44 0 10), (pt (pt (pt (spl (spl s44 7 1 u48) 6 1 u54) 0 21 (0 : Int32)) 0 18 (0 : Int32)) 0 20 (0 : Int32))) := by
          rw [d_X7_lay]; exact (lt_eq y2.symm).trans ((if_neg n1).trans ((if_neg (show ¬ M' 0 5 = 0 by rw [s5]; exact g1')).trans (if_neg (show ¬ M' 0 6 = 0 by rw [s6]; exact g2'))))
        have e7b := e7a.trans (lt_eq rfl)
        generalize d_X7_lay_L50 7 (pt (pt (pt M' 0 10 (M' 0 5)) 0 11 (M' 0 6)) 0 12 (M' 0 7)) 0 = S at l1 l3 e7b
        have S0 : ∀ j, j ≠ 10 → j ≠ 11 → j ≠ 12 → S 0 j = M' 0 j := fun j a b c => by rw [l1 0 (by decide), pt_eq, up_o c, pt_eq, up_o b, pt_eq, up_o a]
        have S10 : S 0 10 = nI T' := by rw [l1 0 (by decide), pt_o (by decide), pt_o (by decide), pt_i]; exact s5
        have S11 : S 0 11 = nI C' := by rw [l1 0 (by decide), pt_o (by decide), pt_i]; exact s6
        have S12 : S 0 12 = M' 0 7 := by rw [l1 0 (by decide), pt_i]
        have So : ∀ q, q ≠ 0 → q ≠ 5 → S q = M' q := fun q a b => by rw [l1 q b, pt_k a, pt_k a, pt_k a]
        have S5 : ∀ t, t < T' → S 5 t = M' 3 t := fun t ht => by rw [l3 t (Nat.zero_le _) ht, pt_k (by decide), pt_k (by decide), pt_k (by decide)]
        obtain ⟨-, q1⟩ := mcopy_at (A := shf S 4) (B := shf S 7) (p := 0) (q := 0) (la := 64) (lb := 64) (by decide) (by decide)
        rw [nI_0] at q1
        have e7c := e7b.trans (lt_eq rfl)
        generalize d_X7_copy (shf S 4) (shf S 7) 64 64 0 0 = u48 at q1 e7c
        obtain ⟨-, q2⟩ := mcopy_at (A := shf (spl S 7 1 u48) 4) (B := shf (spl S 7 1 u48) 6) (p := 0) (q := 0) (la := 64) (lb := 64) (by decide) (by decide)
        rw [nI_0] at q2
        have e7d := e7c.trans (lt_eq rfl)
        generalize d_X7_copy (shf (spl S 7 1 u48) 4) (shf (spl S 7 1 u48) 6) 64 64 0 0 = u54 at q2 e7d
        rw [S10] at e7d
        generalize hZ : pt (pt (pt (spl (spl S 7 1 u48) 6 1 u54) 0 21 0) 0 18 0) 0 20 0 = Z at e7d
        have Zo : ∀ q, q ≠ 0 → q ≠ 6 → q ≠ 7 → Z q = S q := fun q a b c => by rw [← hZ, pt_k a, pt_k a, pt_k a, spl_out (by omega), spl_out (by omega)]
        have Z0 : ∀ j, j ≠ 21 → j ≠ 18 → j ≠ 20 → Z 0 j = S 0 j := fun j a b c => by rw [← hZ, pt_eq, up_o c, pt_eq, up_o b, pt_eq, up_o a, spl_out (by omega), spl_out (by omega)]
        have Z21 : Z 0 21 = 0 := by rw [← hZ, pt_o (by decide), pt_o (by decide), pt_i]
        have Z18 : Z 0 18 = 0 := by rw [← hZ, pt_o (by decide), pt_i]
        have Z20 : Z 0 20 = 0 := by rw [← hZ, pt_i]
        have Z7 : ∀ k, k < 64 → Z 7 k = M' 4 k := fun k hk => by
          rw [← hZ, pt_k (by decide), pt_k (by decide), pt_k (by decide), spl_out (by omega), spl_in (by omega), Nat.sub_self]
          have z := q1 k hk
          rw [Nat.zero_add] at z
          rw [z]
          show S 4 k = _
          rw [So 4 (by decide) (by decide)]
        have Z6 : ∀ k, k < 64 → Z 6 k = M' 4 k := fun k hk => by
          rw [← hZ, pt_k (by decide), pt_k (by decide), pt_k (by decide), spl_in (by omega), Nat.sub_self]
          have z := q2 k hk
          rw [Nat.zero_add] at z
          rw [z]
          show spl S 7 1 u48 4 k = _
          rw [spl_out (by omega), So 4 (by decide) (by decide)]
        have Z5 : Z 5 = S 5 := Zo 5 (by decide) (by decide) (by decide)
        have Z12 : Z 0 12 = M' 0 7 := by rw [Z0 12 (by decide) (by decide) (by decide), S12]
        rw [e6d, e7d]
        refine ⟨rfl, T', C', hT, hC, ?_, ?_, ?_, ?_, ?_, ⟨?_, fun c hc => ?_, fun t ht => ?_⟩, fun c hc => ?_, ?_, ?_, ?_⟩
        · dsimp only; rw [Z0 10 (by decide) (by decide) (by decide)]; exact S10
        · dsimp only; rw [Z0 11 (by decide) (by decide) (by decide)]; exact S11
        · dsimp only; rw [Z12]; exact s7
        · dsimp only
          rw [yo2 0 (by omega) (by omega) (by omega) (by omega) (by omega), yo2 1 (by omega) (by omega) (by omega) (by omega) (by omega), Z0 0 (by decide) (by decide) (by decide), S0 0 (by decide) (by decide) (by decide), Zo 1 (by decide) (by decide) (by decide), So 1 (by decide) (by decide)]
          exact hl
        · dsimp only
          rw [Z12, Z5]
          exact RS_a hT hC (RS_kd hY22 S5) Z6
        · dsimp only
          rw [Z12, Z5]
          exact RS_a hT hC (RS_kd hY4 S5) Z7
        · dsimp only
          rw [Z7 _ (by omega)]; exact hZX.2.2 _ (by omega) (by omega)
        · dsimp only
          rw [Z7 _ (by omega)]; exact hZX.2.1 _ (by omega) (by omega)
        · dsimp only
          rw [yo2 _ (by omega) (by omega) (by omega) (by omega) (by omega)]; exact htr c hc
        · dsimp only
          rw [Z18]
          exact IShelf_0 hp y55 (fun k h1 h2 => by
            show Y (55 + k) = X (55 + k)
            exact yo2 _ (by omega) (by omega) (by omega) (by omega) (by omega)) (by decide)
        · dsimp only
          rw [Z20]
          exact IShelf_0 hk y177 (fun k h1 h2 => by
            show Y (177 + k) = X (177 + k)
            exact yo2 _ (by omega) (by omega) (by omega) (by omega) (by omega)) (by decide)
        · dsimp only
          rw [Z21, Zo 11 (by decide) (by decide) (by decide), So 11 (by decide) (by decide)]
          obtain ⟨n, hn, -, -, h3, -⟩ := hfd
          refine ⟨0, by decide, y209, rfl, fun i hi => ⟨?_, (h3 i hi).2⟩, fun i hi => absurd hi (by omega)⟩
          show rg 20 (Y 211 i)
          rw [yo2 211 (by omega) (by omega) (by omega) (by omega) (by omega)]; exact (h3 i hi).1
