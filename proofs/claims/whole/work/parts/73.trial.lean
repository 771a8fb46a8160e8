/-! the trial: what a trial may change, and its steps on both sides -/
def TR (R0 R M0 M : Nat → Nat → Int32) : Prop := (∀ q, ¬ (40 ≤ q ∧ q < 55) → q < 213 → R q = R0 q) ∧ (∀ q, q ≠ 0 → q ≠ 8 → q ≠ 12 → q ≠ 13 → M q = M0 q) ∧ (∀ j, j ≠ 25 → M 0 j = M0 0 j) ∧ ∀ c, c < 3 → R (40 + (9 + 2 * c)) 4 = 0
/-- what a trial or a reading changes keeps the invariant -/
theorem Inv_tr {R M R' M' : Nat → Nat → Int32} (h : Inv R M) (er : ∀ q, q ≠ 2 → q ≠ 3 → ¬ (40 ≤ q ∧ q < 55) → q < 213 → R' q = R q) (em : ∀ q, q ≠ 0 → q ≠ 2 → q ≠ 3 → q ≠ 4 → q ≠ 8 → q ≠ 12 → q ≠ 13 → M' q = M q) (e0 : ∀ j, j ≠ 2 → j ≠ 4 → j ≠ 5 → j ≠ 6 → j ≠ 7 → j ≠ 25 → M' 0 j = M 0 j) (hs : ∀ c, c < 3 → R' (40 + (9 + 2 * c)) 4 = 0) : Inv R' M' := by
  obtain ⟨T, C, hT, hC, t1, c1, k1, hl, hnow, hlaid, -, hp, hk, hf⟩ := h
  have z : ∀ j, j = 0 ∨ (10 ≤ j ∧ j < 25) → M' 0 j = M 0 j := fun j hj => e0 j (by omega) (by omega) (by omega) (by omega) (by omega) (by omega)
  have y : ∀ q, q = 1 ∨ (5 ≤ q ∧ q < 8) ∨ (9 ≤ q ∧ q < 12) → M' q = M q := fun q hq => em q (by omega) (by omega) (by omega) (by omega) (by omega) (by omega) (by omega)
  refine ⟨T, C, hT, hC, ?_, ?_, ?_, ?_, ?_, ⟨?_, ?_⟩, hs, ?_, ?_, ?_⟩
  · rw [z 10 (by omega)]; exact t1
  · rw [z 11 (by omega)]; exact c1
  · rw [z 12 (by omega)]; exact k1
  · rw [er 0 (by omega) (by omega) (by omega) (by omega), er 1 (by omega) (by omega) (by omega) (by omega), z 0 (by omega), y 1 (by omega)]; exact hl
  · rw [y 5 (by omega), y 6 (by omega), z 12 (by omega)]
    exact RS_to hT hnow (fun k _ => er (22 + k) (by omega) (by omega) (by omega) (by omega))
  · rw [y 5 (by omega), y 7 (by omega), z 12 (by omega)]
    exact RS_to hT hlaid.1 (fun k _ => er (4 + k) (by omega) (by omega) (by omega) (by omega))
  · rw [y 7 (by omega)]; exact hlaid.2
  · rw [y 5 (by omega), y 9 (by omega), z 12 (by omega), z 18 (by omega)]
    exact IShelf_to hT hp (fun k _ => er (55 + k) (by omega) (by omega) (by omega) (by omega)) (by decide)
  · rw [y 5 (by omega), y 10 (by omega), z 12 (by omega), z 20 (by omega)]
    exact IShelf_to hT hk (fun k _ => er (177 + k) (by omega) (by omega) (by omega) (by omega)) (by decide)
  · rw [y 11 (by omega), z 21 (by omega)]
    exact IFind_to hf (fun k _ => er (209 + k) (by omega) (by omega) (by omega) (by omega))
theorem TR.inv {R0 R M0 M : Nat → Nat → Int32} (h : TR R0 R M0 M) (hI : Inv R0 M0) : Inv R M :=
  Inv_tr hI (fun q _ _ a b => h.1 q a b) (fun q a _ _ _ b c d => h.2.1 q a b c d) (fun j _ _ _ _ _ a => h.2.2.1 j a) h.2.2.2
theorem TR.start {R M : Nat → Nat → Int32} (h : Inv R M) : TR R R M M := by
  obtain ⟨T, C, -, -, -, -, -, -, -, -, htr, -⟩ := h
  exact ⟨fun _ _ _ => rfl, fun _ _ _ _ _ => rfl, fun _ _ => rfl, htr⟩
/-- a river copied into the trial, on both sides -/
theorem tr_copy {T C : Nat} {kd : Nat → Int32} {cost : Int32} {R0 R M0 M : Nat → Nat → Int32} {o s : Nat} (hT : T ≤ 6) (hC : C ≤ 3) (h : TR R0 R M0 M) (ho : (o = 22 ∧ s = 6) ∨ (o = 4 ∧ s = 7)) (hr : RS T C kd cost (shf R0 o) (M0 s)) : TR R0 (spl R 40 15 (d_X3_copy (shf R 40) (shf R o))) M0 (spl M 8 1 (d_X7_copy (shf M s) (shf M 8) 64 64 0 0)) ∧ RS T C kd cost (shf (spl R 40 15 (d_X3_copy (shf R 40) (shf R o))) 40) (spl M 8 1 (d_X7_copy (shf M s) (shf M 8) 64 64 0 0) 8) := by
  obtain ⟨h1, h2, h3, h4⟩ := h
  have e1 : M s = M0 s := h2 s (by omega) (by omega) (by omega) (by omega)
  have hsrc : RS T C kd cost (shf R o) (M0 s) := RS_to hT hr (fun k hk => h1 (o + k) (by omega) (by omega))
  have hcp := RS_copy (r := shf R 40) hT hsrc (fun c hc => h4 c hc)
  generalize d_X3_copy (shf R 40) (shf R o) = u at hcp
  obtain ⟨-, q2⟩ := mcopy_at (A := shf M s) (B := shf M 8) (p := 0) (q := 0) (la := 64) (lb := 64) (by omega) (by omega)
  rw [nI_0] at q2
  generalize d_X7_copy (shf M s) (shf M 8) 64 64 0 0 = w at q2
  have s8 : spl M 8 1 w 8 = w 0 := by rw [spl_in (by omega)]
  refine ⟨⟨fun q a b => by rw [spl_out (by omega), h1 q a b], fun q a b c d => by rw [spl_out (by omega), h2 q a b c d], fun j hj => by rw [spl_out (by omega), h3 j hj], fun c hc => ?_⟩, ?_⟩
  · rw [spl_in (by omega), show 40 + (9 + 2 * c) - 40 = 9 + 2 * c by omega]; exact RS_sp hcp c hc
  · rw [s8]
    refine RS_a hT hC (RS_to hT hcp (fun k hk => ?_)) (fun k hk => ?_)
    · show spl R 40 15 u (40 + k) = u k
      rw [spl_in (by omega), show 40 + k - 40 = k by omega]
    · have z := q2 k hk
      rw [Nat.zero_add] at z
      rw [z]
      show M s k = _
      rw [e1]
/-- N springs in the trial of the class -/
theorem tr_go {T C N : Nat} {kd : Nat → Int32} {cost : Int32} {R0 R M0 M : Nat → Nat → Int32} {a : Nat → Int32} (hT : T ≤ 6) (hC : C ≤ 3) (hk : rg 30 cost) (hN : N < 2 ^ 31) (h : TR R0 R M0 M) (hr : RS T C kd cost (shf R 40) a) : TR R0 (spl R 40 15 (d_X3_goBy (shf R 40) (nI N))) M0 M ∧ RS T C kd cost (shf (spl R 40 15 (d_X3_goBy (shf R 40) (nI N))) 40) (itA kd T C cost N a) := by
  obtain ⟨h1, h2, h3, h4⟩ := h
  have hgo := RS_go hT hC hk hN hr
  generalize d_X3_goBy (shf R 40) (nI N) = u at hgo
  refine ⟨⟨fun q a b => by rw [spl_out (by omega), h1 q a b], h2, h3, fun c hc => ?_⟩, RS_to hT hgo (fun k hk => ?_)⟩
  · rw [spl_in (by omega), show 40 + (9 + 2 * c) - 40 = 9 + 2 * c by omega]; exact RS_sp hgo c hc
  · show spl R 40 15 u (40 + k) = u k
    rw [spl_in (by omega), show 40 + k - 40 = k by omega]
/-- the reference's trial changed -/
theorem TR.m8 {R0 R M0 M M' : Nat → Nat → Int32} (h : TR R0 R M0 M) (e : ∀ q, q ≠ 8 → M' q = M q) : TR R0 R M0 M' :=
  ⟨h.1, fun q a b c d => by rw [e q b, h.2.1 q a b c d], fun j hj => by rw [e 0 (by decide), h.2.2.1 j hj], h.2.2.2⟩
/-- a number of the class's trial changed, not a crew's spoils -/
theorem TR.pt {R0 R M0 M : Nat → Nat → Int32} {q j : Nat} {z : Int32} (h : TR R0 R M0 M) (hq : 40 ≤ q ∧ q < 55) (hj : j ≠ 4 ∨ q < 49) : TR R0 (pt R q j z) M0 M :=
  ⟨fun q' a b => by rw [pt_k (by omega)]; exact h.1 q' a b, h.2.1, h.2.2.1, fun c hc => by rw [pt_o (by omega)]; exact h.2.2.2 c hc⟩
/-- the reference's spring on its trial -/
theorem tr_spr {T C : Nat} {R0 R M0 M : Nat → Nat → Int32} (hT : T ≤ 6) (hC : C ≤ 3) (t1 : M0 0 10 = nI T) (c1 : M0 0 11 = nI C) (h : TR R0 R M0 M) : spl M 8 1 (d_X7_spring (shf M 0) (shf M 5) (shf M 8)) 8 = itA (M0 5) T C (M0 0 12) 1 (M 8) := by
  have hs := spring_eq (M := shf M 0) (q := shf M 5) (R := shf M 8) (T := T) (C := C) ((h.2.2.1 10 (by decide)).trans t1) hT ((h.2.2.1 11 (by decide)).trans c1) hC
  have e5 : shf M 5 0 = M0 5 := h.2.1 5 (by decide) (by decide) (by decide) (by decide)
  have e12 : shf M 0 0 12 = M0 0 12 := h.2.2.1 12 (by decide)
  rw [e5, e12] at hs
  rw [spl_in (by omega), Nat.sub_self, hs]; rfl
/-- one spring on both sides -/
theorem tr_step {T C : Nat} {R0 R M0 M : Nat → Nat → Int32} (hT : T ≤ 6) (hC : C ≤ 3) (t1 : M0 0 10 = nI T) (c1 : M0 0 11 = nI C) (hk : rg 30 (M0 0 12)) (h : TR R0 R M0 M) (hr : RS T C (M0 5) (M0 0 12) (shf R 40) (M 8)) : TR R0 (spl R 40 15 (d_X3_goBy (shf R 40) 1)) M0 (spl M 8 1 (d_X7_spring (shf M 0) (shf M 5) (shf M 8))) ∧ RS T C (M0 5) (M0 0 12) (shf (spl R 40 15 (d_X3_goBy (shf R 40) 1)) 40) (spl M 8 1 (d_X7_spring (shf M 0) (shf M 5) (shf M 8)) 8) := by
  obtain ⟨g1, g2⟩ := tr_go (N := 1) hT hC hk (by decide) h hr
  rw [tr_spr hT hC t1 c1 h]
  exact ⟨g1.m8 (fun q hq => spl_out (by omega)), g2⟩
theorem tri_T {T C t : Nat} {kd : Nat → Int32} {cost : Int32} {X : Nat → Nat → Int32} {a : Nat → Int32} (h : RS T C kd cost (shf X 40) a) (ht : t < T) : X (43 + t) 1 = a (25 + t) ∧ X (43 + t) 2 = kd t ∧ X (43 + t) 3 = a (1 + t) ∧ X (43 + t) 4 = a (7 + t) ∧ X (43 + t) 5 = a (13 + t) ∧ X (43 + t) 6 = a (19 + t) ∧ X (43 + t) 7 = a (31 + t) := by
  have z := RS_T h ht
  unfold RT at z
  have e : shf X 40 (3 + t) = X (43 + t) := by show X (40 + (3 + t)) = _; rw [show 40 + (3 + t) = 43 + t by omega]
  rw [e] at z; exact z
theorem tri_at {T C v : Nat} {kd : Nat → Int32} {cost : Int32} {r : Nat → Nat → Int32} {a : Nat → Int32} (hT : T ≤ 6) (h : RS T C kd cost r a) (hv : v < T) : d_X3_townAt r (nI v) = some v := by
  unfold d_X3_townAt
  rw [if_neg (nI_pos (by omega)), if_neg (nI_ge (by omega) (by omega)), nI_clamp (by omega), if_neg (fun z => ((RS_t h v (by omega)).mp z) hv)]
theorem try_loop {T C N : Nat} {Q q : Nat → Nat → Int32} (hT : T ≤ 6) (hC : C ≤ 3) (t1 : Q 0 10 = nI T) (c1 : Q 0 11 = nI C) (hN : N < 2 ^ 31) : ∀ (n k : Nat) (R : Nat → Nat → Int32), k ≤ N → N < k + n → d_X7_tryOn_L12 Q q (nI N) n R k 0 = itA (q 0) T C (Q 0 12) (N - k) (R 0) := by
  intro n
  induction n with
  | zero => intro k R h1 h2; exact absurd h2 (by omega)
  | succ n ih =>
    intro k R h1 h2
    by_cases g : N ≤ k
    · have e : d_X7_tryOn_L12 Q q (nI N) (n + 1) R k = R := by rw [d_X7_tryOn_L12]; exact if_pos (nI_le g (by omega))
      rw [e, show N - k = 0 by omega]; rfl
    · have e : d_X7_tryOn_L12 Q q (nI N) (n + 1) R k = d_X7_tryOn_L12 Q q (nI N) n (d_X7_spring Q q R) (k + 1) := by rw [d_X7_tryOn_L12]; exact (if_neg (nI_ge (by omega) (by omega))).trans (lt_eq rfl)
      rw [e, ih (k + 1) _ (by omega) (by omega), spring_eq t1 hT c1 hC, show N - k = (N - (k + 1)) + 1 by omega]; rfl
theorem s_behind {R M : Nat → Nat → Int32} {n t what : Int32} (h : Inv R M) : (d_X6_behind R n t what).1 = (d_X7_behind M n t what).1 ∧ Inv (d_X6_behind R n t what).2 (d_X7_behind M n t what).2 := by
  have h' := h
  obtain ⟨T, C, hT, hC, t1, c1, k1, -, hnow, -⟩ := h'
  have n1 : ¬ (1 : Int32) = 0 := by decide
  have key : ∀ z6 z7, d_X6_behind R n t what = z6 → d_X7_behind M n t what = z7 → (z6.1 = z7.1 ∧ Inv z6.2 z7.2) → ((d_X6_behind R n t what).1 = (d_X7_behind M n t what).1 ∧ Inv (d_X6_behind R n t what).2 (d_X7_behind M n t what).2) := by
    intro z6 z7 e6 e7 w; rw [e6, e7]; exact w
  have bad : d_X7_behind M n t what = (-1, M) → d_X6_behind R n t what = (-1, R) → ((d_X6_behind R n t what).1 = (d_X7_behind M n t what).1 ∧ Inv (d_X6_behind R n t what).2 (d_X7_behind M n t what).2) := fun e7 e6 => key _ _ e6 e7 ⟨rfl, h⟩
  by_cases g1 : n < 0 ∨ 30 < n
  · refine bad (by rw [d_X7_behind]; exact (lt_eq (y := 0) (by rw [in_eq, if_pos g1])).trans (if_pos rfl)) ?_
    rw [d_X6_behind]
    cases hx : d_X3_townAt (shf R 22) t with
    | none => exact oc_none rfl
    | some k =>
      refine (oc_some rfl).trans ?_
      by_cases g2 : n < 0
      · exact if_pos g2
      · exact (if_neg g2).trans (if_pos (g1.resolve_left g2))
  · obtain ⟨N, hN, rfl⟩ := rg_in (N := 30) (fun w => g1 (Or.inl w)) (fun w => g1 (Or.inr w)) (by decide)
    have i1 : d_X7_in (nI N) 0 30 = 1 := by rw [in_eq, if_neg g1]
    rcases town_cases (Q := shf M 0) (t := t) hT t1 (RS_t hnow) with ⟨v, hv, rfl, e1, e2⟩ | ⟨e1, e2⟩
    · have c0 : (nI v).toNatClampNeg = v := nI_clamp (by omega)
      by_cases g2 : what < 0 ∨ 3 < what
      · refine bad (by rw [d_X7_behind]; exact (lt_eq i1.symm).trans ((if_neg n1).trans ((lt_eq e2.symm).trans ((if_neg n1).trans ((lt_eq (y := 0) (by rw [in_eq, if_pos g2])).trans (if_pos rfl)))))) ?_
        rw [d_X6_behind]
        refine (oc_some e1).trans ((if_neg (fun w => g1 (Or.inl w))).trans ((if_neg (fun w => g1 (Or.inr w))).trans ?_))
        by_cases g3 : what < 0
        · exact if_pos g3
        · exact (if_neg g3).trans (if_neg (Int32.not_le.mpr (g2.resolve_left g3)))
      · have i2 : d_X7_in what 0 3 = 1 := by rw [in_eq, if_neg g2]
        obtain ⟨a1, a2⟩ := tr_copy hT hC (TR.start h) (Or.inl ⟨rfl, rfl⟩) hnow
        obtain ⟨b1, b2⟩ := tr_go (N := N) hT hC k1 (by omega) a1 a2
        have hl := try_loop (Q := shf M 0) (q := shf M 5) hT hC t1 c1 (N := N) (by omega) (N + 1) 0 (d_X7_copy (shf M 6) (shf M 8) 64 64 0 0) (by omega) (by omega)
        have et : d_X7_tryOn (shf M 0) (shf M 5) (shf M 8) (shf M 6) (nI N) = d_X7_tryOn_L12 (shf M 0) (shf M 5) (nI N) (N + 1) (d_X7_copy (shf M 6) (shf M 8) 64 64 0 0) 0 := by
          rw [d_X7_tryOn, nI_clamp (by omega)]; exact (lt_eq rfl).trans (lt_eq rfl)
        rw [Nat.sub_zero] at hl
        rw [spl_in (by omega), Nat.sub_self] at b2
        generalize d_X7_tryOn_L12 (shf M 0) (shf M 5) (nI N) (N + 1) (d_X7_copy (shf M 6) (shf M 8) 64 64 0 0) 0 = w at hl et
        have b3 : TR R (spl (spl R 40 15 (d_X3_copy (shf R 40) (shf R 22))) 40 15 (d_X3_goBy (shf (spl R 40 15 (d_X3_copy (shf R 40) (shf R 22))) 40) (nI N))) M (spl M 8 1 w) := ⟨b1.1, fun q a b c d => spl_out (by omega), fun j hj => by rw [spl_out (by omega)], b1.2.2.2⟩
        have b4 : itA (M 5) T C (M 0 12) N (d_X7_copy (shf M 6) (shf M 8) 64 64 0 0 0) = w 0 := hl.symm
        rw [b4] at b2
        generalize hX : spl (spl R 40 15 (d_X3_copy (shf R 40) (shf R 22))) 40 15 (d_X3_goBy (shf (spl R 40 15 (d_X3_copy (shf R 40) (shf R 22))) 40) (nI N)) = X at b2 b3
        obtain ⟨p1, p2, p3, p4, p5, p6, p7⟩ := tri_T b2 hv
        have q7 : X (25 + v) 7 = M 6 (31 + v) := by rw [b3.1 (25 + v) (by omega) (by omega)]; exact (now_T hnow hv).2.2.2.2.2.2
        have hX6 : ∀ z, (if what = 0 then (X (43 + v) 3, X) else if what = 1 then (X (43 + v) 5, X) else if what = 2 then (if X (43 + v) 1 = 0 then ((0 : Int32), X) else (1, X)) else (X (43 + v) 7 - X (25 + v) 7, X)) = z → d_X6_behind R (nI N) (nI v) what = z := by
          intro z hz
          rw [d_X6_behind]
          refine (oc_some e1).trans ((if_neg (fun w => g1 (Or.inl w))).trans ((if_neg (fun w => g1 (Or.inr w))).trans ((if_neg (fun w => g2 (Or.inl w))).trans ((if_pos (Int32.not_lt.mp (fun w => g2 (Or.inr w)))).trans ((lt_eq rfl).trans ((lt_eq rfl).trans ?_))))))
          rw [hX]
          exact (oc_some (tri_at hT b2 hv)).trans hz
        have hX7 : ∀ z, (if what = 0 then (w 0 (1 + v), spl M 8 1 w) else if what = 1 then (w 0 (13 + v), spl M 8 1 w) else if what = 2 then (w 0 (25 + v), spl M 8 1 w) else (w 0 (31 + v) - M 6 (31 + v), spl M 8 1 w)) = z → d_X7_behind M (nI N) (nI v) what = z := by
          intro z hz
          rw [d_X7_behind, c0]
          exact (lt_eq i1.symm).trans ((if_neg n1).trans ((lt_eq e2.symm).trans ((if_neg n1).trans ((lt_eq i2.symm).trans ((if_neg n1).trans ((lt_eq et.symm).trans hz))))))
        have hI := b3.inv h
        have d0 : ¬ (1 : Int32) = 0 := by decide
        by_cases w0 : what = 0
        · exact key _ _ (hX6 _ (if_pos w0)) (hX7 _ (if_pos w0)) ⟨p3, hI⟩
        · by_cases w1 : what = 1
          · exact key _ _ (hX6 _ ((if_neg w0).trans (if_pos w1))) (hX7 _ ((if_neg w0).trans (if_pos w1))) ⟨p5, hI⟩
          · by_cases w2 : what = 2
            · have bb := (b2.2.2.1.1 v hv).2.1
              rcases bb with bb | bb
              · exact key _ _ (hX6 _ ((if_neg w0).trans ((if_neg w1).trans ((if_pos w2).trans (if_pos (by rw [p1]; exact bb)))))) (hX7 _ ((if_neg w0).trans ((if_neg w1).trans (if_pos w2)))) ⟨bb.symm, hI⟩
              · exact key _ _ (hX6 _ ((if_neg w0).trans ((if_neg w1).trans ((if_pos w2).trans (if_neg (by rw [p1, bb]; exact d0)))))) (hX7 _ ((if_neg w0).trans ((if_neg w1).trans (if_pos w2)))) ⟨bb.symm, hI⟩
            · exact key _ _ (hX6 _ ((if_neg w0).trans ((if_neg w1).trans (if_neg w2)))) (hX7 _ ((if_neg w0).trans ((if_neg w1).trans ((if_neg w2).trans (lt_eq rfl))))) ⟨by dsimp only; rw [p7, q7], hI⟩
    · refine bad (by rw [d_X7_behind]; exact (lt_eq i1.symm).trans ((if_neg n1).trans ((lt_eq e2.symm).trans (if_pos rfl)))) ?_
      rw [d_X6_behind]; exact oc_none e1
