/-! what the invariant gives the contracts; the easy pairs -/
theorem nnN {x : Int32} {n N : Nat} (h : x = nI n) (hn : n ≤ N) (hN : N < 2 ^ 31) : x = nI x.toNatClampNeg ∧ x.toNatClampNeg ≤ N := by
  subst h
  rw [nI_clamp (by omega)]
  exact ⟨rfl, hn⟩
theorem nn_rg {x : Int32} {N : Nat} (h : rg N x) (hN : N < 2 ^ 31) : x = nI x.toNatClampNeg ∧ x.toNatClampNeg ≤ N := by
  obtain ⟨n, hn, e⟩ := h
  exact nnN e hn hN
theorem rg_in {x : Int32} {N : Nat} (h0 : ¬ x < 0) (h1 : ¬ nI N < x) (hN : N < 2 ^ 31) : rg N x := by
  rw [Int32.lt_iff_toInt_lt] at h0 h1
  rw [nI_toInt hN] at h1
  have e0 : (0 : Int32).toInt = 0 := by decide
  rw [e0] at h0
  refine ⟨x.toInt.toNat, by omega, ?_⟩
  apply Int32.toInt_inj.mp
  rw [nI_toInt (by omega)]
  omega
theorem Inv.ok6 {R M : Nat → Nat → Int32} (h : Inv R M) : OK6 R := by
  obtain ⟨T, C, hT, hC, -, -, -, ⟨n, hn, hx, -⟩, -, -, -, ⟨m, hm, h8, -, hw, -⟩, ⟨q, hq, h2, -, hv, -⟩, ⟨f, hf, -, -, hi, -⟩⟩ := h
  have a1 := nnN hx hn (by decide)
  have a2 := nnN (show R 55 1 = nI m from h8) hm (by decide)
  have a3 := nnN (show R 177 1 = nI q from h2) hq (by decide)
  refine ⟨a1.1, a1.2, fun j hj => ?_, a2.1, a2.2, fun i hi' => nn_rg (hi i hi').1 (by decide), fun j hj => ?_, a3.1, a3.2⟩
  · obtain ⟨w, hw1, hw2⟩ := hw j hj
    have e : R 56 j = nI w := hw2
    rw [e, nI_clamp (by omega)]; exact hw1
  · obtain ⟨w, hw1, hw2⟩ := hv j hj
    have e : R 178 j = nI w := hw2
    rw [e, nI_clamp (by omega)]; exact hw1
theorem Inv.ok7 {R M : Nat → Nat → Int32} (h : Inv R M) : OK7 M := by
  obtain ⟨T, C, hT, hC, t1, c1, -, ⟨n, hn, -, hy, -⟩, ⟨-, -, -, hz⟩, -, -, ⟨m, hm, -, h8, -⟩, ⟨q, hq, -, h2, -⟩, ⟨f, hf, -, h3, hi, -⟩⟩ := h
  have a1 := nnN hy hn (by decide)
  have a2 := nnN t1 hT (by decide)
  have a3 := nnN c1 hC (by decide)
  have a4 := nnN h8 hm (by decide)
  have a5 := nnN h3 hf (by decide)
  have a6 := nnN h2 hq (by decide)
  refine ⟨a1.1, a1.2, a2.1, a2.2, a3.1, a3.2, a4.1, a4.2, fun i hi' => nn_rg (hz i hi').1 (by decide), a5.1, a5.2, fun i hi' => ?_, a6.1, a6.2⟩
  obtain ⟨g1, g2⟩ := nn_rg (hi i hi').2 (by decide)
  exact ⟨g1, by omega⟩
theorem IShelf_to {N T C : Nat} {kd : Nat → Int32} {cost : Int32} {s s' : Nat → Nat → Int32} {y : Int32} {bk : Nat → Int32} (hT : T ≤ 6) (h : IShelf N T C kd cost s y bk) (e : ∀ k, k < 2 + 15 * N → s' k = s k) (hN : 0 < N) : IShelf N T C kd cost s' y bk := by
  obtain ⟨n, hn, h1, h2, h3, h4, h5, h6⟩ := h
  refine ⟨n, hn, by rw [e 0 (by omega)]; exact h1, h2, fun j hj => by rw [e 1 (by omega)]; exact h3 j hj, fun i j hi hj => by rw [e 1 (by omega)]; exact h4 i j hi hj, fun w hw c hc => ?_, fun i w hi hw g => ?_⟩
  · rw [e _ (by omega)]; exact h5 w hw c hc
  · rw [e 1 (by omega)] at g
    refine RS_to hT (h6 i w hi hw g) (fun k hk => ?_)
    exact e (2 + 15 * w + k) (by omega)
theorem IFind_to {T : Nat} {f f' : Nat → Nat → Int32} {y : Int32} {g : Nat → Int32} (h : IFind T f y g) (e : ∀ k, k < 4 → f' k = f k) : IFind T f' y g := by
  unfold IFind at h ⊢
  rw [e 0 (by omega), e 1 (by omega), e 2 (by omega), e 3 (by omega)]
  exact h
theorem nar_ok : ∀ k, k ≤ 126 → vp_nar .char (((nI k).toUInt32 % 65536).toInt32) = nI k := by decide +kernel
theorem in_eq {v lo hi : Int32} : d_X7_in v lo hi = if v < lo ∨ hi < v then 0 else 1 := by
  unfold d_X7_in
  by_cases h : v < lo
  · rw [if_pos h, if_pos (Or.inl h)]
  · rw [if_neg h]
    by_cases h2 : hi < v
    · rw [if_pos h2, if_pos (Or.inr h2)]
    · rw [if_neg h2, if_neg (fun z => z.elim h h2)]
theorem s_wipe {R M : Nat → Nat → Int32} (h : Inv R M) : (d_X6_wipe R).1 = (d_X7_wipe M).1 ∧ Inv (d_X6_wipe R).2 (d_X7_wipe M).2 := by
  obtain ⟨T, C, hT, hC, t1, c1, k1, ⟨n, hn, hx, hy, hl⟩, hnow, hlaid, htr, hp, hk, hf⟩ := h
  have er : ∀ q, q ≠ 0 → pt R 0 1 0 q = R q := fun q hq => pt_k hq
  have em : ∀ q, q ≠ 0 → pt M 0 0 0 q = M q := fun q hq => pt_k hq
  have e0 : ∀ j, j ≠ 0 → pt M 0 0 0 0 j = M 0 j := fun j hj => by rw [pt_eq, up_o hj]
  refine ⟨by show R 0 1 = M 0 0; rw [hx, hy], T, C, hT, hC, ?_, ?_, ?_, ⟨0, by omega, ?_, ?_, fun j hj => absurd hj (by omega)⟩, ?_, ⟨?_, ?_⟩, ?_, ?_, ?_, ?_⟩
  · show pt M 0 0 0 0 10 = _; rw [e0 10 (by decide)]; exact t1
  · show pt M 0 0 0 0 11 = _; rw [e0 11 (by decide)]; exact c1
  · show rg 30 (pt M 0 0 0 0 12); rw [e0 12 (by decide)]; exact k1
  · show pt R 0 1 0 0 1 = _; rw [pt_eq, up_e]; exact nI_0.symm
  · show pt M 0 0 0 0 0 = _; rw [pt_eq, up_e]; exact nI_0.symm
  · show RS T C (pt M 0 0 0 5) (pt M 0 0 0 0 12) (shf (pt R 0 1 0) 22) (pt M 0 0 0 6)
    rw [em 5 (by decide), em 6 (by decide), e0 12 (by decide)]
    exact RS_to hT hnow (fun k _ => er (22 + k) (by omega))
  · show RS T C (pt M 0 0 0 5) (pt M 0 0 0 0 12) (shf (pt R 0 1 0) 4) (pt M 0 0 0 7)
    rw [em 5 (by decide), em 7 (by decide), e0 12 (by decide)]
    exact RS_to hT hlaid.1 (fun k _ => er (4 + k) (by omega))
  · show (∀ c, c < C → pt M 0 0 0 7 (43 + c) = 0) ∧ ∀ t, t < T → pt M 0 0 0 7 (25 + t) = 0
    rw [em 7 (by decide)]; exact hlaid.2
  · intro c hc
    show pt R 0 1 0 (40 + (9 + 2 * c)) 4 = 0
    rw [er _ (by omega)]; exact htr c hc
  · show IShelf 8 T C (pt M 0 0 0 5) (pt M 0 0 0 0 12) (shf (pt R 0 1 0) 55) (pt M 0 0 0 0 18) (pt M 0 0 0 9)
    rw [em 5 (by decide), em 9 (by decide), e0 12 (by decide), e0 18 (by decide)]
    exact IShelf_to hT hp (fun k _ => er (55 + k) (by omega)) (by decide)
  · show IShelf 2 T C (pt M 0 0 0 5) (pt M 0 0 0 0 12) (shf (pt R 0 1 0) 177) (pt M 0 0 0 0 20) (pt M 0 0 0 10)
    rw [em 5 (by decide), em 10 (by decide), e0 12 (by decide), e0 20 (by decide)]
    exact IShelf_to hT hk (fun k _ => er (177 + k) (by omega)) (by decide)
  · show IFind T (shf (pt R 0 1 0) 209) (pt M 0 0 0 0 21) (pt M 0 0 0 11)
    rw [em 11 (by decide), e0 21 (by decide)]
    exact IFind_to hf (fun k _ => er (209 + k) (by omega))
