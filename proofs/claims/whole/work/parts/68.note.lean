/-! the oldest of a full shelf goes; now is put upon the past, and noted -/
theorem drop_loop {N : Nat} (hN : N ≤ 8) : ∀ (n i : Nat) (s : Nat → Nat → Int32), 0 < i → i ≤ N → N < i + n → (∀ q, q ≠ 1 → d_X4_dropOldest_L9 N n s i q = s q) ∧ (∀ j, j + 1 < i → d_X4_dropOldest_L9 N n s i 1 j = s 1 j) ∧ (∀ j, i ≤ j + 1 → j + 1 < N → d_X4_dropOldest_L9 N n s i 1 j = s 1 (j + 1)) ∧ ∀ j, N ≤ j → d_X4_dropOldest_L9 N n s i 1 j = s 1 j := by
  intro n
  induction n with
  | zero => intro i s h0 h1 h2; exact absurd h2 (by omega)
  | succ n ih =>
    intro i s h0 h1 h2
    by_cases c1 : N ≤ i
    · have e : d_X4_dropOldest_L9 N (n + 1) s i = s := by rw [d_X4_dropOldest_L9]; exact if_pos (nI_le c1 (by omega))
      rw [e]
      exact ⟨fun _ _ => rfl, fun _ _ => rfl, fun j h3 h4 => absurd h4 (by omega), fun _ _ => rfl⟩
    · have e : d_X4_dropOldest_L9 N (n + 1) s i = d_X4_dropOldest_L9 N n (pt s 1 (i - 1) (s 1 i)) (i + 1) := by rw [d_X4_dropOldest_L9]; exact if_neg (nI_ge (by omega) (by omega))
      obtain ⟨g1, g2, g3, g4⟩ := ih (i + 1) (pt s 1 (i - 1) (s 1 i)) (by omega) (by omega) (by omega)
      rw [e]
      refine ⟨fun q hq => by rw [g1 q hq, pt_k hq], fun j hj => ?_, fun j h3 h4 => ?_, fun j hj => ?_⟩
      · rw [g2 j (by omega), pt_eq, up_o (by omega)]
      · by_cases z : j + 1 = i
        · rw [g2 j (by omega), pt_eq, show i - 1 = j by omega, up_e, z]
        · rw [g3 j (by omega) h4, pt_eq, up_o (by omega)]
      · rw [g4 j hj, pt_eq, up_o (by omega)]
theorem drop_at {N : Nat} {s : Nat → Nat → Int32} (h0 : 0 < N) (hN : N ≤ 8) : d_X4_dropOldest s N 0 1 = nI (N - 1) ∧ (∀ q, q ≠ 0 → q ≠ 1 → d_X4_dropOldest s N q = s q) ∧ (∀ j, j + 1 < N → d_X4_dropOldest s N 1 j = s 1 (j + 1)) ∧ d_X4_dropOldest s N 1 (N - 1) = s 1 0 := by
  obtain ⟨g1, g2, g3, g4⟩ := drop_loop hN (N + 1) 1 s (by decide) h0 (by omega)
  have e : d_X4_dropOldest s N = pt (pt (d_X4_dropOldest_L9 N (N + 1) s 1) 1 (N - 1) (s 1 0)) 0 1 (nI (N - 1)) := rfl
  rw [e]
  generalize d_X4_dropOldest_L9 N (N + 1) s 1 = v at g1 g2 g3 g4
  refine ⟨by rw [pt_eq, up_e], fun q q0 q1 => by rw [pt_k q0, pt_k q1, g1 q q1], fun j hj => ?_, ?_⟩
  · rw [pt_k (by decide), pt_eq, up_o (by omega), g3 j (by omega) hj]
  · rw [pt_k (by decide), pt_eq, up_e]
theorem drop_shelf {N T C : Nat} {kd : Nat → Int32} {cost : Int32} {s : Nat → Nat → Int32} {y : Int32} {bk : Nat → Int32} (hT : T ≤ 6) (hC : C ≤ 3) (h0 : 0 < N) (hN : N ≤ 8) (h : IShelf N T C kd cost s y bk) (hx : s 0 1 = nI N) : IShelf N T C kd cost (d_X4_dropOldest s N) (nI (N - 1)) (fun k => bk (64 + k)) := by
  obtain ⟨g1, g2, g3, g4⟩ := drop_at (s := s) h0 hN
  generalize d_X4_dropOldest s N = v at g1 g2 g3 g4
  obtain ⟨n', hn', h1, h2, h3, h4, h5, h6⟩ := h
  have en : n' = N := (nI_eq (by omega) (by omega)).mp (by rw [← h1, hx])
  subst en
  have row : ∀ j, j < n' → v 1 j = s 1 (if j + 1 < n' then j + 1 else 0) := fun j hj => by
    by_cases z : j + 1 < n'
    · rw [if_pos z, g3 j z]
    · rw [if_neg z, show j = n' - 1 by omega, g4]
  have rlt : ∀ j, (if j + 1 < n' then j + 1 else 0) < n' := fun j => by
    by_cases z : j + 1 < n'
    · rw [if_pos z]; exact z
    · rw [if_neg z]; exact h0
  refine ⟨n' - 1, by omega, g1, rfl, fun j hj => ?_, fun i j hi hj z => ?_, fun w hw c hc => ?_, fun i w hi hw g => ?_⟩
  · rw [row j hj]; exact h3 _ (rlt j)
  · rw [row i hi, row j hj] at z
    have := h4 _ _ (rlt i) (rlt j) z
    by_cases z1 : i + 1 < n'
    · by_cases z2 : j + 1 < n'
      · rw [if_pos z1, if_pos z2] at this; omega
      · rw [if_pos z1, if_neg z2] at this; omega
    · by_cases z2 : j + 1 < n'
      · rw [if_neg z1, if_pos z2] at this; omega
      · omega
  · rw [g2 _ (by omega) (by omega)]; exact h5 w hw c hc
  · rw [row i (by omega), if_pos (by omega)] at g
    refine RS_a hT hC (RS_to hT (h6 (i + 1) w (by omega) hw g) (fun k hk => g2 (2 + 15 * w + k) (by omega) (by omega))) (fun k hk => ?_)
    dsimp only
    rw [show 64 + (64 * i + k) = 64 * (i + 1) + k by omega]
theorem shift_loop : ∀ (n k : Nat) (R : Nat → Nat → Int32), k ≤ 448 → 448 < k + n → (∀ j, j < k ∨ 448 ≤ j → d_X7_note_L11 n R k 0 j = R 0 j) ∧ ∀ j, k ≤ j → j < 448 → d_X7_note_L11 n R k 0 j = R 0 (j + 64) := by
  intro n
  induction n with
  | zero => intro k R h1 h2; exact absurd h2 (by omega)
  | succ n ih =>
    intro k R h1 h2
    by_cases c1 : 448 ≤ k
    · have e : d_X7_note_L11 (n + 1) R k = R := by rw [d_X7_note_L11]; exact if_pos (nI_le (a := 448) c1 (by omega))
      rw [e]; exact ⟨fun _ _ => rfl, fun j h3 h4 => absurd h4 (by omega)⟩
    · have e : d_X7_note_L11 (n + 1) R k = d_X7_note_L11 n (pt R 0 k (R 0 (k + 64))) (k + 1) := by rw [d_X7_note_L11]; exact if_neg (nI_ge (b := 448) (by omega) (by omega))
      obtain ⟨g1, g2⟩ := ih (k + 1) (pt R 0 k (R 0 (k + 64))) (by omega) (by omega)
      rw [e]
      refine ⟨fun j hj => ?_, fun j h3 h4 => ?_⟩
      · rw [g1 j (by omega), pt_eq, up_o (by omega)]
      · by_cases z : j = k
        · subst z; rw [g1 j (by omega), pt_eq, up_e]
        · rw [g2 j (by omega) h4, pt_eq, up_o (by omega)]
theorem note_put {T C : Nat} {R M : Nat → Nat → Int32} (hT : T ≤ 6) (hC : C ≤ 3) (hp : IShelf 8 T C (M 5) (M 0 12) (shf R 55) (M 0 18) (M 9)) (hnow : RS T C (M 5) (M 0 12) (shf R 22) (M 6)) : ∃ S u, d_X4_put (shf R 55) (shf R 22) 8 = S ∧ d_X7_note (shf M 0) (shf M 6) (shf M 9) = u ∧ (∀ j, j ≠ 18 → u.1 0 j = M 0 j) ∧ IShelf 8 T C (M 5) (M 0 12) S (u.1 0 18) (u.2 0) := by
  have hp' := hp
  obtain ⟨m, hm, p1, p2, -⟩ := hp'
  have c0 : (nI m).toNatClampNeg = m := nI_clamp (by omega)
  have m2 : shf M 0 0 18 = nI m := p2
  by_cases g0 : m = 8
  · subst g0
    obtain ⟨b1, b2⟩ := shift_loop 449 0 (shf M 9) (by decide) (by decide)
    obtain ⟨q1, q2⟩ := mcopy_at (A := shf M 6) (B := d_X7_note_L11 449 (shf M 9) 0) (p := 0) (q := 64 * 7) (la := 64) (lb := 512) (by omega) (by omega)
    rw [nI_0] at q1 q2
    have hd := drop_shelf hT hC (by decide) (by decide) hp p1
    obtain ⟨d1, -⟩ := drop_at (s := shf R 55) (N := 8) (by decide) (by decide)
    have e6 : d_X4_put (shf R 55) (shf R 22) 8 = d_X4_put (d_X4_dropOldest (shf R 55) 8) (shf R 22) 8 := by
      have w1 : d_X4_put (shf R 55) (shf R 22) 8 = (lt (d_X4_dropOldest (shf R 55) 8) fun u16 => if (u16 0 1) < 0 then u16 else if (nI 8) ≤ (u16 0 1) then u16 else lt (d_X3_copy (shf u16 (2 + 15 * (u16 1 ((u16 0 1).toNatClampNeg)).toNatClampNeg)) (shf R 22)) fun u25 => (pt (spl u16 (2 + 15 * (u16 1 ((u16 0 1).toNatClampNeg)).toNatClampNeg) 15 u25) 0 1 (((spl u16 (2 + 15 * (u16 1 ((u16 0 1).toNatClampNeg)).toNatClampNeg) 15 u25) 0 1) + (1 : Int32)))) := by
        rw [d_X4_put, p1]; exact if_neg (nI_nlt (Nat.le_refl _) (by decide))
      rw [w1]
      generalize d_X4_dropOldest (shf R 55) 8 = v at d1
      refine Eq.symm ?_
      rw [d_X4_put]
      exact if_pos (by rw [d1]; exact nI_lt (by decide) (by decide))
    generalize d_X4_dropOldest (shf R 55) 8 = v at d1 hd e6
    have e7 : d_X7_note (shf M 0) (shf M 6) (shf M 9) = (pt (pt (shf M 0) 0 18 (nI 7)) 0 18 (nI 8), d_X7_copy (shf M 6) (d_X7_note_L11 449 (shf M 9) 0) 64 512 0 (nI (64 * 7))) := by
      rw [d_X7_note, m2, c0]; exact (if_pos rfl).trans ((lt_eq rfl).trans (lt_eq rfl))
    generalize d_X7_note_L11 449 (shf M 9) 0 = w at b1 b2 q1 q2 e7
    generalize d_X7_copy (shf M 6) w 64 512 0 (nI (64 * 7)) = u at q1 q2 e7
    obtain ⟨s0, hsh⟩ := put_shelf (n := 7) (r := shf R 22) (a := M 6) (bk' := u 0) hT hC (by decide) hd d1 (by decide) hnow (fun i k hi hk2 => by
      rw [q1 (64 * i + k) (by omega), b2 (64 * i + k) (by omega) (by omega), show 64 * i + k + 64 = 64 + (64 * i + k) by omega]; rfl) (fun k hk2 => by have z := q2 k hk2; rw [Nat.zero_add] at z; exact z)
    refine ⟨_, _, e6, e7, fun j hj => ?_, ?_⟩
    · dsimp only
      rw [pt_eq, up_o hj, pt_eq, up_o hj]; rfl
    · dsimp only
      rw [pt_eq, up_e]; exact hsh
  · obtain ⟨q1, q2⟩ := mcopy_at (A := shf M 6) (B := shf M 9) (p := 0) (q := 64 * m) (la := 64) (lb := 512) (by omega) (by omega)
    rw [nI_0] at q1 q2
    have e7 : d_X7_note (shf M 0) (shf M 6) (shf M 9) = (pt (shf M 0) 0 18 (nI (m + 1)), d_X7_copy (shf M 6) (shf M 9) 64 512 0 (nI (64 * m))) := by
      rw [d_X7_note, m2, c0]; exact (if_neg (fun w => g0 ((nI_eq (b := 8) (by omega) (by decide)).mp w))).trans (lt_eq rfl)
    generalize d_X7_copy (shf M 6) (shf M 9) 64 512 0 (nI (64 * m)) = u at q1 q2 e7
    obtain ⟨s0, hsh⟩ := put_shelf (r := shf R 22) (a := M 6) (bk' := u 0) hT hC (by decide) hp p1 (by omega) hnow (fun i k hi hk2 => q1 (64 * i + k) (by omega)) (fun k hk2 => by have z := q2 k hk2; rw [Nat.zero_add] at z; exact z)
    refine ⟨_, _, rfl, e7, fun j hj => ?_, ?_⟩
    · dsimp only
      rw [pt_eq, up_o hj]; rfl
    · dsimp only
      rw [pt_eq, up_e]; exact hsh
/-- now is another, and the past -/
theorem Inv_now {T C : Nat} {R M R' M' : Nat → Nat → Int32} (hT : T ≤ 6) (hC : C ≤ 3) (t1 : M 0 10 = nI T) (c1 : M 0 11 = nI C) (k1 : rg 30 (M 0 12)) (hl : ILet (R 0 1) (R 1) (M 0 0) (M 1)) (hlaid : RS T C (M 5) (M 0 12) (shf R 4) (M 7) ∧ (∀ c, c < C → M 7 (43 + c) = 0) ∧ ∀ t, t < T → M 7 (25 + t) = 0) (htr : ∀ c, c < 3 → R (40 + (9 + 2 * c)) 4 = 0) (hk : IShelf 2 T C (M 5) (M 0 12) (shf R 177) (M 0 20) (M 10)) (hf : IFind T (shf R 209) (M 0 21) (M 11))
    (er : ∀ q, ¬ (22 ≤ q ∧ q < 37) → ¬ (55 ≤ q ∧ q < 177) → R' q = R q) (em : ∀ q, q ≠ 0 → q ≠ 6 → q ≠ 9 → M' q = M q) (e0 : ∀ j, j ≠ 18 → M' 0 j = M 0 j) (hnow : RS T C (M 5) (M 0 12) (shf R' 22) (M' 6)) (hp : IShelf 8 T C (M 5) (M 0 12) (shf R' 55) (M' 0 18) (M' 9)) : Inv R' M' := by
  refine ⟨T, C, hT, hC, ?_, ?_, ?_, ?_, ?_, ⟨?_, ?_⟩, ?_, ?_, ?_, ?_⟩
  · rw [e0 10 (by decide)]; exact t1
  · rw [e0 11 (by decide)]; exact c1
  · rw [e0 12 (by decide)]; exact k1
  · rw [er 0 (by omega) (by omega), er 1 (by omega) (by omega), e0 0 (by decide), em 1 (by decide) (by decide) (by decide)]; exact hl
  · rw [em 5 (by decide) (by decide) (by decide), e0 12 (by decide)]; exact hnow
  · rw [em 5 (by decide) (by decide) (by decide), em 7 (by decide) (by decide) (by decide), e0 12 (by decide)]
    exact RS_to hT hlaid.1 (fun k _ => er (4 + k) (by omega) (by omega))
  · rw [em 7 (by decide) (by decide) (by decide)]; exact hlaid.2
  · intro c hc
    rw [er _ (by omega) (by omega)]; exact htr c hc
  · rw [em 5 (by decide) (by decide) (by decide), e0 12 (by decide)]; exact hp
  · rw [em 5 (by decide) (by decide) (by decide), em 10 (by decide) (by decide) (by decide), e0 12 (by decide), e0 20 (by decide)]
    exact IShelf_to hT hk (fun k _ => er (177 + k) (by omega) (by omega)) (by decide)
  · rw [em 11 (by decide) (by decide) (by decide), e0 21 (by decide)]
    exact IFind_to hf (fun k _ => er (209 + k) (by omega) (by omega))
/-- a river changed on both sides -/
theorem RS_mk {T C : Nat} {kd : Nat → Int32} {cost : Int32} {r r' : Nat → Nat → Int32} {a a' : Nat → Int32} (h : RS T C kd cost r a) (ht : ∀ t, t < 6 → r' (3 + t) 0 = r (3 + t) 0) (hRT : ∀ t, t < T → RT kd r' a' t) (hc : ∀ c, c < 3 → r' (9 + 2 * c) 0 = r (9 + 2 * c) 0 ∧ r' (9 + 2 * c) 4 = r (9 + 2 * c) 4) (hgo : ∀ c, c < C → r' (9 + 2 * c) 1 = a' (43 + c) ∧ (a' (43 + c) = 0 ∨ a' (43 + c) = 1)) (hRC : ∀ c, c < C → RC T r' a' c) (h2 : r' 0 2 = r 0 2) (h3 : r' 0 3 = a' 0) (hRG : RG T C a') (hZ : ZR a') : RS T C kd cost r' a' := by
  obtain ⟨⟨go, ⟨w1, w2, w3, w4, w5, w6, w7⟩, w8⟩, -⟩ := h
  refine ⟨⟨fun c => r' (9 + 2 * c) 1, ⟨fun t h => by rw [ht t h]; exact w1 t h, hRT, fun c h => ⟨by rw [(hc c h).1]; exact (w3 c h).1, rfl, rfl⟩, fun c _ h => hRC c h, fun c h => by rw [(hc c h).2]; exact w5 c h, by rw [h2]; exact w6, h3⟩, fun c h => (hgo c h).1⟩, fun c h => (hgo c h).2, hRG, hZ⟩
