/-! best -/
def dg (n row j : Nat) : Int32 := nI (row / 4 ^ (n - j - 1) % 4)
theorem way_dg : ∀ n, n ≤ 4 → ∀ j, j < n → ∀ row, row < 256 → d_X6_wayInRow (nI row) (nI n) (nI (j + 1)) = dg n row j := by decide +kernel
theorem rows_eq : ∀ n, n ≤ 4 → d_X7_layBest_L5 (nI n) 5 1 0 = nI (4 ^ n) ∧ ((1 : Int32) <<< (((2 : Int32) * nI n) &&& 31)) = nI (4 ^ n) ∧ 4 ^ n ≤ 256 ∧ 0 < 4 ^ n := by decide +kernel
theorem tr_m12 {R0 R M0 M : Nat → Nat → Int32} {k j : Nat} {z : Int32} (h : TR R0 R M0 M) (hk : k = 8 ∨ k = 12 ∨ k = 13) : TR R0 R M0 (pt M k j z) :=
  ⟨h.1, fun q a b c d => by rw [pt_k (by omega)]; exact h.2.1 q a b c d, fun j' hj => by rw [pt_k (by omega)]; exact h.2.2.1 j' hj, h.2.2.2⟩
theorem tr_m25 {R0 R M0 M : Nat → Nat → Int32} {z : Int32} (h : TR R0 R M0 M) : TR R0 R M0 (pt M 0 25 z) :=
  ⟨h.1, fun q a b c d => by rw [pt_k a]; exact h.2.1 q a b c d, fun j' hj => by rw [pt_o (by omega)]; exact h.2.2.1 j' hj, h.2.2.2⟩
theorem row_loop {T C n v row : Nat} {R0 M0 : Nat → Nat → Int32} (hT : T ≤ 6) (hC : C ≤ 3) (t1 : M0 0 10 = nI T) (c1 : M0 0 11 = nI C) (hk : rg 30 (M0 0 12)) (hn : n ≤ 4) (hv : v < T) (hrow : row < 256) : ∀ m k R M, k ≤ n → n < k + m → TR R0 R M0 M → RS T C (M0 5) (M0 0 12) (shf R 40) (M 8) → ∃ R' M', d_X6_silverByRow_L31 (nI n) (nI row) v m R (k + 1) = R' ∧ d_X7_layBest_L57 (nI v) (nI n) row m M (nI (4 ^ (n - k))) k = M' ∧ TR R0 R' M0 M' ∧ RS T C (M0 5) (M0 0 12) (shf R' 40) (M' 8) ∧ (∀ j, k ≤ j → j < n → M' 12 j = dg n row j) ∧ (∀ j, j < k → M' 12 j = M 12 j) ∧ M' 13 = M 13 ∧ M' 0 = M 0 := by
  intro m
  induction m with
  | zero => intro k R M h1 h2; exact absurd h2 (by omega)
  | succ m ih =>
    intro k R M h1 h2 h hr
    by_cases g : n ≤ k
    · refine ⟨R, M, ?_, ?_, h, hr, fun j h3 h4 => absurd h4 (by omega), fun _ _ => rfl, rfl, rfl⟩
      · rw [d_X6_silverByRow_L31]; exact if_pos (nI_lt (by omega) (by omega))
      · rw [d_X7_layBest_L57]; exact if_pos (nI_le g (by omega))
    · have cv : (nI v).toNatClampNeg = v := nI_clamp (by omega)
      have p4 : 4 ^ (n - k) = 4 * 4 ^ (n - (k + 1)) := by rw [show n - k = (n - (k + 1)) + 1 by omega, Nat.pow_succ, Nat.mul_comm]
      have hp : 4 ^ (n - (k + 1)) ≤ 4 ^ 3 := Nat.pow_le_pow_right (by decide) (by omega)
      have cu : (nI (4 ^ (n - k))).toNatClampNeg / 4 = 4 ^ (n - (k + 1)) := by rw [nI_clamp (by rw [p4]; omega), p4]; omega
      have hd : nI (row / 4 ^ (n - (k + 1)) % 4) = dg n row k := by unfold dg; rw [show n - (k + 1) = n - k - 1 by omega]
      have e6 : d_X6_silverByRow_L31 (nI n) (nI row) v (m + 1) R (k + 1) = d_X6_silverByRow_L31 (nI n) (nI row) v m (spl (pt R (43 + v) 6 (dg n row k)) 40 15 (d_X3_goBy (shf (pt R (43 + v) 6 (dg n row k)) 40) 1)) (k + 1 + 1) := by
        rw [d_X6_silverByRow_L31, way_dg n hn k (by omega) row hrow]
        exact (if_neg (nI_nlt (by omega) (by omega))).trans ((lt_eq rfl).trans (lt_eq rfl))
      have e7 : d_X7_layBest_L57 (nI v) (nI n) row (m + 1) M (nI (4 ^ (n - k))) k = d_X7_layBest_L57 (nI v) (nI n) row m (spl (pt (pt M 12 k (dg n row k)) 8 (19 + v) (dg n row k)) 8 1 (d_X7_spring (shf (pt (pt M 12 k (dg n row k)) 8 (19 + v) (dg n row k)) 0) (shf (pt (pt M 12 k (dg n row k)) 8 (19 + v) (dg n row k)) 5) (shf (pt (pt M 12 k (dg n row k)) 8 (19 + v) (dg n row k)) 8))) (nI (4 ^ (n - (k + 1)))) (k + 1) := by
        rw [d_X7_layBest_L57, cu, hd, cv]
        refine (if_neg (nI_ge (by omega) (by omega))).trans ((lt_eq (y := dg n row k) (by rw [pt_i])).trans (lt_eq rfl))
      have b1 := tr_m12 (h.pt (q := 43 + v) (j := 6) (z := dg n row k) (by omega) (Or.inl (by decide))) (k := 12) (j := k) (z := dg n row k) (Or.inr (Or.inl rfl))
      have b1' := tr_m12 b1 (k := 8) (j := 19 + v) (z := dg n row k) (Or.inl rfl)
      have b2 := RS_ut (z := dg n row k) hT hC hr hv (Or.inr (Or.inr (Or.inr (Or.inr (Or.inl ⟨rfl, rfl⟩))))) (RG_up1 hT hC hr.2.2.1 (fun _ _ w => absurd w (by omega)) (fun _ _ w => absurd w (by omega)) (fun _ _ w => absurd w (by omega)) (fun _ _ w => absurd w (by omega)) (fun _ _ w => absurd w (by omega)) (fun _ _ _ _ w => absurd w (by omega))) (ZR_up1 hr.2.2.2 (fun _ _ w => absurd w (by omega)) (fun _ _ w => absurd w (by omega)))
      rw [← shf_pt (R := R) (i := 40) (m := 43 + v) (by omega)] at b2
      have e8 : pt (pt M 12 k (dg n row k)) 8 (19 + v) (dg n row k) 8 = upd (M 8) (19 + v) (dg n row k) := by rw [pt_eq, pt_k (by decide)]
      rw [← e8] at b2
      have f12 : ∀ j, j ≠ k → pt (pt M 12 k (dg n row k)) 8 (19 + v) (dg n row k) 12 j = M 12 j := fun j hj => by rw [pt_o (by omega), pt_o (by omega)]
      have f12' : pt (pt M 12 k (dg n row k)) 8 (19 + v) (dg n row k) 12 k = dg n row k := by rw [pt_o (by omega), pt_i]
      have f13 : pt (pt M 12 k (dg n row k)) 8 (19 + v) (dg n row k) 13 = M 13 := by rw [pt_k (by decide), pt_k (by decide)]
      have f0 : pt (pt M 12 k (dg n row k)) 8 (19 + v) (dg n row k) 0 = M 0 := by rw [pt_k (by decide), pt_k (by decide)]
      generalize pt R (43 + v) 6 (dg n row k) = X at b1' b2 e6
      generalize pt (pt M 12 k (dg n row k)) 8 (19 + v) (dg n row k) = Y at b1' b2 e7 f12 f12' f13 f0
      obtain ⟨d1, d2⟩ := tr_step hT hC t1 c1 hk b1' b2
      obtain ⟨R', M', x1, x2, x3, x4, x5, x6, x7, x8⟩ := ih (k + 1) _ _ (by omega) (by omega) d1 d2
      have s0 : ∀ q, q ≠ 8 → spl Y 8 1 (d_X7_spring (shf Y 0) (shf Y 5) (shf Y 8)) q = Y q := fun q hq => spl_out (by omega)
      refine ⟨R', M', by rw [e6, x1], by rw [e7, x2], x3, x4, fun j h3 h4 => ?_, fun j hj => ?_, ?_, ?_⟩
      · by_cases z : j = k
        · subst z; rw [x6 j (by omega), s0 12 (by decide), f12']
        · exact x5 j (by omega) h4
      · rw [x6 j (by omega), s0 12 (by decide), f12 j (by omega)]
      · rw [x7, s0 13 (by decide), f13]
      · rw [x8, s0 0 (by decide), f0]
theorem rowcp_loop {n : Nat} (hn : n ≤ 4) : ∀ m k (M : Nat → Nat → Int32), k ≤ n → n < k + m → (∀ q, q ≠ 13 → d_X7_layBest_L159 (nI n) m M k q = M q) ∧ (∀ j, k ≤ j → j < n → d_X7_layBest_L159 (nI n) m M k 13 j = M 12 j) ∧ ∀ j, j < k → d_X7_layBest_L159 (nI n) m M k 13 j = M 13 j := by
  intro m
  induction m with
  | zero => intro k M h1 h2; exact absurd h2 (by omega)
  | succ m ih =>
    intro k M h1 h2
    by_cases g : n ≤ k
    · have e : d_X7_layBest_L159 (nI n) (m + 1) M k = M := by rw [d_X7_layBest_L159]; exact if_pos (nI_le g (by omega))
      rw [e]; exact ⟨fun _ _ => rfl, fun j h3 h4 => absurd h4 (by omega), fun _ _ => rfl⟩
    · have e : d_X7_layBest_L159 (nI n) (m + 1) M k = d_X7_layBest_L159 (nI n) m (pt M 13 k (M 12 k)) (k + 1) := by rw [d_X7_layBest_L159]; exact if_neg (nI_ge (by omega) (by omega))
      obtain ⟨g1, g2, g3⟩ := ih (k + 1) (pt M 13 k (M 12 k)) (by omega) (by omega)
      rw [e]
      refine ⟨fun q hq => by rw [g1 q hq, pt_k hq], fun j h3 h4 => ?_, fun j hj => by rw [g3 j (by omega), pt_o (by omega)]⟩
      by_cases z : j = k
      · subst z; rw [g3 j (by omega), pt_i]
      · rw [g2 j (by omega) h4, pt_k (by decide)]
theorem best_loop {T C n v : Nat} {R0 M0 : Nat → Nat → Int32} (hT : T ≤ 6) (hC : C ≤ 3) (t1 : M0 0 10 = nI T) (c1 : M0 0 11 = nI C) (hk : rg 30 (M0 0 12)) (hnow : RS T C (M0 5) (M0 0 12) (shf R0 22) (M0 6)) (hn : n ≤ 4) (hn0 : 0 < n) (hv : v < T) : ∀ m row R M most b, row ≤ 4 ^ n → 4 ^ n < row + m → TR R0 R M0 M → ((most = -1 ∧ b = 0 ∧ row = 0) ∨ (b < row ∧ ∀ j, j < n → M 13 j = dg n b j)) → ∃ R' M' mo b', d_X6_best_L67 (nI v) (nI n) m R most (nI b) (M 0 25) row = (R', mo, nI b', M' 0 25) ∧ d_X7_layBest_L32 (nI v) (nI n) (nI (4 ^ n)) m M most row = (M', mo) ∧ TR R0 R' M0 M' ∧ b' < 256 ∧ ∀ j, j < n → M' 13 j = dg n b' j := by
  obtain ⟨-, r2, r3, r4⟩ := rows_eq n hn
  intro m
  induction m with
  | zero => intro row R M most b h1 h2; exact absurd h2 (by omega)
  | succ m ih =>
    intro row R M most b h1 h2 h hb
    by_cases g : 4 ^ n ≤ row
    · have er : row = 4 ^ n := by omega
      refine ⟨R, M, most, b, ?_, ?_, h, ?_, ?_⟩
      · rw [d_X6_best_L67, r2]; exact if_pos (nI_le g (by omega))
      · rw [d_X7_layBest_L32]; exact if_pos (nI_le g (by omega))
      · rcases hb with ⟨-, w, -⟩ | ⟨w, -⟩ <;> omega
      · rcases hb with ⟨-, -, w⟩ | ⟨-, w⟩
        · omega
        · exact w
    · have cv : (nI v).toNatClampNeg = v := nI_clamp (by omega)
      obtain ⟨a1, a2⟩ := tr_copy hT hC h (Or.inl ⟨rfl, rfl⟩) hnow
      have e6 : d_X6_silverByRow R (nI v) (nI n) (nI row) = oc (d_X3_townAt (shf (spl R 40 15 (d_X3_copy (shf R 40) (shf R 22))) 40) (nI v)) ((0 : Int32), spl R 40 15 (d_X3_copy (shf R 40) (shf R 22))) fun k12 => (d_X6_silverByRow_L31 (nI n) (nI row) k12 5 (spl R 40 15 (d_X3_copy (shf R 40) (shf R 22))) 1 (43 + k12) 3, d_X6_silverByRow_L31 (nI n) (nI row) k12 5 (spl R 40 15 (d_X3_copy (shf R 40) (shf R 22))) 1) := by
        rw [d_X6_silverByRow]; exact lt_eq rfl
      have e7 : d_X7_layBest_L32 (nI v) (nI n) (nI (4 ^ n)) (m + 1) M most row = lt (d_X7_layBest_L57 (nI v) (nI n) row 5 (spl M 8 1 (d_X7_copy (shf M 6) (shf M 8) 64 64 0 0)) (nI (4 ^ n)) 0) fun s74 => if s74 8 (1 + v) ≤ most then d_X7_layBest_L32 (nI v) (nI n) (nI (4 ^ n)) m (pt s74 0 25 (s74 0 25 + (1 - s74 8 (25 + v)))) most (row + 1) else d_X7_layBest_L32 (nI v) (nI n) (nI (4 ^ n)) m (d_X7_layBest_L159 (nI n) 5 (pt s74 0 25 (s74 0 25 + (1 - s74 8 (25 + v)))) 0) (s74 8 (1 + v)) (row + 1) := by
        rw [d_X7_layBest_L32, cv]
        exact (if_neg (nI_ge (by omega) (by omega))).trans (lt_eq rfl)
      have y13 : spl M 8 1 (d_X7_copy (shf M 6) (shf M 8) 64 64 0 0) 13 = M 13 := spl_out (by omega)
      have y0 : spl M 8 1 (d_X7_copy (shf M 6) (shf M 8) 64 64 0 0) 0 = M 0 := spl_out (by omega)
      generalize spl R 40 15 (d_X3_copy (shf R 40) (shf R 22)) = X at a1 a2 e6
      generalize spl M 8 1 (d_X7_copy (shf M 6) (shf M 8) 64 64 0 0) = Y at a1 a2 e7 y13 y0
      have e6' := e6.trans (oc_some (tri_at hT a2 hv))
      obtain ⟨R', M', x1, x2, x3, x4, x5, -, x7, x8⟩ := row_loop (row := row) hT hC t1 c1 hk hn hv (by omega) 5 0 X Y (by omega) (by omega) a1 a2
      rw [x1] at e6'
      rw [Nat.sub_zero] at x2
      have e7' := e7.trans (lt_eq x2.symm)
      have ps : R' (43 + v) 3 = M' 8 (1 + v) := (tri_T x4 hv).2.2.1
      have hs := (x4.2.2.1.1 v hv).1
      have hst := stands_at (i := v) hT x4 (by omega)
      have m0 : M' 0 25 = M 0 25 := by rw [x8, y0]
      have m13 : M' 13 = M 13 := by rw [x7, y13]
      rw [m0] at e7'
      have e6'' : d_X6_best_L67 (nI v) (nI n) (m + 1) R most (nI b) (M 0 25) row = if R' (43 + v) 3 ≤ most then (if d_X3_standsAt (shf R' 40) (nI v) = 0 then d_X6_best_L67 (nI v) (nI n) m R' most (nI b) (M 0 25) (row + 1) else d_X6_best_L67 (nI v) (nI n) m R' most (nI b) (M 0 25 + Int32.ofInt 1) (row + 1)) else (if d_X3_standsAt (shf R' 40) (nI v) = 0 then d_X6_best_L67 (nI v) (nI n) m R' (R' (43 + v) 3) (nI row) (M 0 25) (row + 1) else d_X6_best_L67 (nI v) (nI n) m R' (R' (43 + v) 3) (nI row) (M 0 25 + Int32.ofInt 1) (row + 1)) := by
        rw [d_X6_best_L67, r2]
        refine (if_neg (nI_ge (by omega) (by omega))).trans ((lt_eq e6'.symm).trans ?_)
        dsimp only
        by_cases w : R' (43 + v) 3 ≤ most
        · rw [if_pos w, if_pos w]; exact lt_eq rfl
        · rw [if_neg w, if_neg w]; exact lt_eq rfl
      have hsafe : ∃ sf, M 0 25 + (1 - M' 8 (25 + v)) = sf ∧ (∀ (A B : (Nat → Nat → Int32) × Int32 × Int32 × Int32) (F : Int32 → (Nat → Nat → Int32) × Int32 × Int32 × Int32), (if d_X3_standsAt (shf R' 40) (nI v) = 0 then F (M 0 25) else F (M 0 25 + Int32.ofInt 1)) = F sf) := by
        have n1 : ¬ (1 : Int32) = 0 := by decide
        refine ⟨_, rfl, fun _ _ F => ?_⟩
        rcases (x4.2.2.1.1 v hv).2.1 with w | w
        · rw [if_pos ⟨hv, w⟩] at hst
          rw [hst, if_neg n1, w, show (1 : Int32) - 0 = Int32.ofInt 1 by decide]
        · rw [if_neg (fun z => n1 (by rw [← w]; exact z.2))] at hst
          rw [hst, if_pos rfl, w, show (1 : Int32) - 1 = 0 by decide, Int32.add_zero]
      obtain ⟨sf, hsf, hsf2⟩ := hsafe
      rw [hsf] at e7'
      have hd : (R', (0 : Int32), (0 : Int32), (0 : Int32)) = (R', 0, 0, 0) := rfl
      rw [hsf2 (R', 0, 0, 0) (R', 0, 0, 0) (fun y => d_X6_best_L67 (nI v) (nI n) m R' most (nI b) y (row + 1)), hsf2 (R', 0, 0, 0) (R', 0, 0, 0) (fun y => d_X6_best_L67 (nI v) (nI n) m R' (R' (43 + v) 3) (nI row) y (row + 1)), ps] at e6''
      have x3' : TR R0 R' M0 (pt M' 0 25 sf) := tr_m25 x3
      have q25 : pt M' 0 25 sf 0 25 = sf := pt_i
      have q13 : pt M' 0 25 sf 13 = M 13 := by rw [pt_k (by decide), m13]
      have q12 : pt M' 0 25 sf 12 = M' 12 := pt_k (by decide)
      by_cases w : M' 8 (1 + v) ≤ most
      · rw [if_pos w] at e6'' e7'
        have hb' : b < row + 1 ∧ ∀ j, j < n → pt M' 0 25 sf 13 j = dg n b j := by
          rcases hb with ⟨w1, -, -⟩ | ⟨w1, w2⟩
          · obtain ⟨s, hs1, hs2⟩ := hs
            rw [hs2, w1] at w
            exact absurd (Int32.lt_of_le_of_lt w (by decide)) (nI_pos (n := s) (by omega))
          · exact ⟨by omega, fun j hj => by rw [q13]; exact w2 j hj⟩
        obtain ⟨R2, M2, mo, b2, z1, z2, z3⟩ := ih (row + 1) R' (pt M' 0 25 sf) most b (by omega) (by omega) x3' (Or.inr hb')
        rw [q25] at z1
        exact ⟨R2, M2, mo, b2, by rw [e6'']; exact z1, by rw [e7']; exact z2, z3⟩
      · rw [if_neg w] at e6'' e7'
        obtain ⟨k1, k2, -⟩ := rowcp_loop hn 5 0 (pt M' 0 25 sf) (by omega) (by omega)
        generalize d_X7_layBest_L159 (nI n) 5 (pt M' 0 25 sf) 0 = Z at k1 k2 e7'
        have z25 : Z 0 25 = sf := by rw [k1 0 (by decide)]; exact q25
        have x4' : TR R0 R' M0 Z := ⟨x3'.1, fun q a b c d => by rw [k1 q d]; exact x3'.2.1 q a b c d, fun j hj => by rw [k1 0 (by decide)]; exact x3'.2.2.1 j hj, x3'.2.2.2⟩
        obtain ⟨R2, M2, mo, b2, z1, z2, z3⟩ := ih (row + 1) R' Z (M' 8 (1 + v)) row (by omega) (by omega) x4' (Or.inr ⟨by omega, fun j hj => by rw [k2 j (by omega) hj, q12]; exact x5 j (by omega) hj⟩)
        rw [z25] at z1
        exact ⟨R2, M2, mo, b2, by rw [e6'']; exact z1, by rw [e7']; exact z2, z3⟩
theorem s_best {R M : Nat → Nat → Int32} {t n k : Int32} (h : Inv R M) : (d_X6_best R t n k).1 = (d_X7_best M t n k).1 ∧ Inv (d_X6_best R t n k).2 (d_X7_best M t n k).2 := by
  have h' := h
  obtain ⟨T, C, hT, hC, t1, c1, k1, -, hnow, -⟩ := h'
  have n1 : ¬ (1 : Int32) = 0 := by decide
  have n0 : ¬ (0 : Int32) = 1 := by decide
  rcases town_cases (Q := shf M 0) (t := t) hT t1 (RS_t hnow) with ⟨v, hv, rfl, e1, e2⟩ | ⟨e1, e2⟩
  · have c0 : (nI v).toNatClampNeg = v := nI_clamp (by omega)
    by_cases g : n < 1 ∨ 4 < n
    · have e7 : d_X7_best M (nI v) n k = (-1, M) := by rw [d_X7_best]; exact (lt_eq e2.symm).trans ((if_neg n1).trans ((lt_eq (y := 0) (by rw [in_eq, if_pos g])).trans (if_pos rfl)))
      have e6 : d_X6_best R (nI v) n k = (-1, R) := by
        rw [d_X6_best]
        refine (oc_some e1).trans ?_
        by_cases g2 : n < 1
        · exact if_pos g2
        · exact (if_neg g2).trans (if_pos (g.resolve_left g2))
      rw [e6, e7]; exact ⟨rfl, h⟩
    · obtain ⟨N, hN, rfl⟩ := rg_in (N := 4) (fun w => g (Or.inl (Int32.lt_trans w (by decide)))) (fun w => g (Or.inr w)) (by decide)
      have hN0 : 0 < N := Nat.pos_of_ne_zero (fun w => g (Or.inl (by rw [w]; decide)))
      have i1 : d_X7_in (nI N) 1 4 = 1 := by rw [in_eq, if_neg g]
      by_cases g3 : k < -1 ∨ nI N < k
      · have e7 : d_X7_best M (nI v) (nI N) k = (-1, M) := by rw [d_X7_best]; exact (lt_eq e2.symm).trans ((if_neg n1).trans ((lt_eq i1.symm).trans ((if_neg n1).trans ((lt_eq (y := 0) (by rw [in_eq, if_pos g3])).trans (if_pos rfl)))))
        have e6 : d_X6_best R (nI v) (nI N) k = (-1, R) := by
          rw [d_X6_best]
          refine (oc_some e1).trans ((if_neg (fun w => g (Or.inl w))).trans ((if_neg (fun w => g (Or.inr w))).trans ?_))
          by_cases g2 : k < -1
          · exact if_pos g2
          · exact (if_neg g2).trans (if_neg (Int32.not_le.mpr (g3.resolve_left g2)))
        rw [e6, e7]; exact ⟨rfl, h⟩
      · have i2 : d_X7_in k (-1) (nI N) = 1 := by rw [in_eq, if_neg g3]
        have q1 : R (25 + v) 1 = M 6 (25 + v) := (now_T hnow hv).1
        have p6 : ∀ x : Int32 × (Nat → Nat → Int32), (if R (25 + v) 1 = 0 then (lt (d_X6_best_L67 (nI v) (nI N) 257 R (-1 : Int32) (0 : Int32) (0 : Int32) 0) fun s56 => if k = (-1 : Int32) then (s56.2.2.2, s56.1) else if k = 0 then (s56.2.1, s56.1) else lt (d_X6_wayInRow s56.2.2.1 (nI N) k) fun u62 => (u62, s56.1)) else ((-2 : Int32), R)) = x → d_X6_best R (nI v) (nI N) k = x := fun x hx => by
          rw [d_X6_best]
          exact (oc_some e1).trans ((if_neg (fun w => g (Or.inl w))).trans ((if_neg (fun w => g (Or.inr w))).trans ((if_neg (fun w => g3 (Or.inl w))).trans ((if_pos (Int32.not_lt.mp (fun w => g3 (Or.inr w)))).trans hx))))
        rcases (hnow.2.2.1.1 v hv).2.1 with b1 | b1
        · obtain ⟨r1, r2, r3, r4⟩ := rows_eq N hN
          obtain ⟨R', M', mo, b', x1, x2, x3, x4, x5⟩ := best_loop (R0 := R) (M0 := M) hT hC t1 c1 k1 hnow hN hN0 hv 257 0 R (pt M 0 25 0) (-1) 0 (by omega) (by omega) (tr_m25 (TR.start h)) (Or.inl ⟨rfl, rfl, rfl⟩)
          rw [pt_i, nI_0] at x1
          have hI := x3.inv h
          have e6 : d_X6_best R (nI v) (nI N) k = if k = -1 then (M' 0 25, R') else if k = 0 then (mo, R') else (d_X6_wayInRow (nI b') (nI N) k, R') := p6 _ (by rw [if_pos (show R (25 + v) 1 = 0 by rw [q1]; exact b1), x1]; rfl)
          have el : d_X7_layBest M (nI v) (nI N) = (mo, M') := by
            rw [d_X7_layBest, r1]
            refine (lt_eq rfl).trans ?_
            rw [x2]; rfl
          have e7 : d_X7_best M (nI v) (nI N) k = if k = 0 then (mo, M') else if 0 ≤ k then (M' 13 (k.toNatClampNeg - 1), M') else (M' 0 25, M') := by
            rw [d_X7_best, c0]
            exact (lt_eq e2.symm).trans ((if_neg n1).trans ((lt_eq i1.symm).trans ((if_neg n1).trans ((lt_eq i2.symm).trans ((if_neg n1).trans ((if_neg (by rw [b1]; exact n0)).trans (lt_eq el.symm)))))))
          rw [e6, e7]
          by_cases w0 : k = 0
          · rw [if_neg (by rw [w0]; decide), if_pos w0, if_pos w0]; exact ⟨rfl, hI⟩
          · by_cases w1 : k = -1
            · rw [if_pos w1, if_neg w0, if_neg (by rw [w1]; decide)]; exact ⟨rfl, hI⟩
            · have kp : ¬ k < 0 := by
                intro w
                have z1 : ¬ k < -1 := fun w => g3 (Or.inl w)
                rw [Int32.lt_iff_toInt_lt] at w z1
                have a0 : (0 : Int32).toInt = 0 := by decide
                have a1 : (-1 : Int32).toInt = -1 := by decide
                rw [a0] at w
                rw [a1] at z1
                exact w1 (Int32.toInt_inj.mp (by rw [a1]; omega))
              obtain ⟨K, hK, rfl⟩ := rg_in (N := N) kp (fun w => g3 (Or.inr w)) (by omega)
              have hK0 : 0 < K := Nat.pos_of_ne_zero (fun w => w0 (by rw [w]; rfl))
              rw [if_neg w1, if_neg w0, if_neg w0, if_pos (nI_pos' (by omega)), nI_clamp (by omega), x5 (K - 1) (by omega)]
              have w := way_dg N hN (K - 1) (by omega) b' x4
              rw [show K - 1 + 1 = K by omega] at w
              exact ⟨w, hI⟩
        · have e6 : d_X6_best R (nI v) (nI N) k = (-2, R) := p6 _ (if_neg (by rw [q1, b1]; exact n1))
          have e7 : d_X7_best M (nI v) (nI N) k = (-2, M) := by
            rw [d_X7_best, c0]; exact (lt_eq e2.symm).trans ((if_neg n1).trans ((lt_eq i1.symm).trans ((if_neg n1).trans ((lt_eq i2.symm).trans ((if_neg n1).trans (if_pos b1))))))
          rw [e6, e7]; exact ⟨rfl, h⟩
  · have e6 : d_X6_best R t n k = (-1, R) := by rw [d_X6_best]; exact oc_none e1
    have e7 : d_X7_best M t n k = (-1, M) := by rw [d_X7_best]; exact (lt_eq e2.symm).trans (if_pos rfl)
    rw [e6, e7]; exact ⟨rfl, h⟩
