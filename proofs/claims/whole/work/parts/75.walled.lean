/-! walled, springs -/
theorem wall_loop {T C N : Nat} {R0 R M0 : Nat → Nat → Int32} (hT : T ≤ 6) (hC : C ≤ 3) (t1 : M0 0 10 = nI T) (c1 : M0 0 11 = nI C) (hN : N < 2 ^ 31) : ∀ (n k : Nat) (M : Nat → Nat → Int32), k ≤ N → N < k + n → TR R0 R M0 M → (∀ q, q ≠ 8 → d_X7_walled_L70 (nI N) n M k q = M q) ∧ d_X7_walled_L70 (nI N) n M k 8 = itA (M0 5) T C (M0 0 12) (N - k) (M 8) := by
  intro n
  induction n with
  | zero => intro k M h1 h2; exact absurd h2 (by omega)
  | succ n ih =>
    intro k M h1 h2 h
    by_cases g : N ≤ k
    · have e : d_X7_walled_L70 (nI N) (n + 1) M k = M := by rw [d_X7_walled_L70]; exact if_pos (nI_le g (by omega))
      rw [e, show N - k = 0 by omega]; exact ⟨fun _ _ => rfl, rfl⟩
    · have hs := tr_spr hT hC t1 c1 h
      have e : d_X7_walled_L70 (nI N) (n + 1) M k = d_X7_walled_L70 (nI N) n (spl M 8 1 (d_X7_spring (shf M 0) (shf M 5) (shf M 8))) (k + 1) := by rw [d_X7_walled_L70]; exact (if_neg (nI_ge (by omega) (by omega))).trans (lt_eq rfl)
      generalize hw : spl M 8 1 (d_X7_spring (shf M 0) (shf M 5) (shf M 8)) = w at hs e
      have ew : ∀ q, q ≠ 8 → w q = M q := fun q hq => by rw [← hw, spl_out (by omega)]
      obtain ⟨g1, g2⟩ := ih (k + 1) w (by omega) (by omega) (h.m8 ew)
      rw [e]
      refine ⟨fun q hq => by rw [g1 q hq, ew q hq], ?_⟩
      rw [g2, show N - k = (N - (k + 1)) + 1 by omega, hs]; rfl
theorem walled_loop {T C N v : Nat} {R0 M0 : Nat → Nat → Int32} (hT : T ≤ 6) (hC : C ≤ 3) (t1 : M0 0 10 = nI T) (c1 : M0 0 11 = nI C) (hk : rg 30 (M0 0 12)) (hnow : RS T C (M0 5) (M0 0 12) (shf R0 22) (M0 6)) (hN : N ≤ 20) (hv : v < T) : ∀ n k R M, k + n ≤ 22 → TR R0 R M0 M → (∃ z R' M', d_X6_walled_L39 (nI v) (nI N) n R k = .inl (z, R') ∧ d_X7_walled_L38 (nI v) (nI N) n M k = .inl (z, M') ∧ TR R0 R' M0 M') ∨ (∃ R' M', d_X6_walled_L39 (nI v) (nI N) n R k = .inr R' ∧ d_X7_walled_L38 (nI v) (nI N) n M k = .inr M' ∧ TR R0 R' M0 M') := by
  intro n
  induction n with
  | zero => intro k R M _ h; exact Or.inr ⟨R, M, rfl, rfl, h⟩
  | succ n ih =>
    intro k R M hkn h
    by_cases c1' : 20 < nI k
    · exact Or.inr ⟨R, M, by rw [d_X6_walled_L39]; exact if_pos c1', by rw [d_X7_walled_L38]; exact if_pos c1', h⟩
    · obtain ⟨a1, a2⟩ := tr_copy hT hC h (Or.inl ⟨rfl, rfl⟩) hnow
      have cv : (nI v).toNatClampNeg = v := nI_clamp (by omega)
      have e6 : d_X6_standsWith R (nI v) (nI k) (nI N) = oc (d_X3_townAt (shf (spl R 40 15 (d_X3_copy (shf R 40) (shf R 22))) 40) (nI v)) ((0 : Int32), spl R 40 15 (d_X3_copy (shf R 40) (shf R 22))) fun k12 => if spl (pt (spl R 40 15 (d_X3_copy (shf R 40) (shf R 22))) (43 + k12) 5 (nI k)) 40 15 (d_X3_goBy (shf (pt (spl R 40 15 (d_X3_copy (shf R 40) (shf R 22))) (43 + k12) 5 (nI k)) 40) (nI N)) (43 + k12) 1 = 0 then ((1 : Int32), spl (pt (spl R 40 15 (d_X3_copy (shf R 40) (shf R 22))) (43 + k12) 5 (nI k)) 40 15 (d_X3_goBy (shf (pt (spl R 40 15 (d_X3_copy (shf R 40) (shf R 22))) (43 + k12) 5 (nI k)) 40) (nI N))) else (0, spl (pt (spl R 40 15 (d_X3_copy (shf R 40) (shf R 22))) (43 + k12) 5 (nI k)) 40 15 (d_X3_goBy (shf (pt (spl R 40 15 (d_X3_copy (shf R 40) (shf R 22))) (43 + k12) 5 (nI k)) 40) (nI N))) := by
        rw [d_X6_standsWith]; exact lt_eq rfl
      generalize spl R 40 15 (d_X3_copy (shf R 40) (shf R 22)) = X at a1 a2 e6
      have e7 : d_X7_walled_L38 (nI v) (nI N) (n + 1) M k = if d_X7_walled_L70 (nI N) 21 (pt (spl M 8 1 (d_X7_copy (shf M 6) (shf M 8) 64 64 0 0)) 8 (13 + v) (nI k)) 0 8 (25 + v) = 0 then .inl (nI k, d_X7_walled_L70 (nI N) 21 (pt (spl M 8 1 (d_X7_copy (shf M 6) (shf M 8) 64 64 0 0)) 8 (13 + v) (nI k)) 0) else d_X7_walled_L38 (nI v) (nI N) n (d_X7_walled_L70 (nI N) 21 (pt (spl M 8 1 (d_X7_copy (shf M 6) (shf M 8) 64 64 0 0)) 8 (13 + v) (nI k)) 0) (k + 1) := by
        rw [d_X7_walled_L38, cv]; exact (if_neg c1').trans ((lt_eq rfl).trans (lt_eq rfl))
      generalize spl M 8 1 (d_X7_copy (shf M 6) (shf M 8) 64 64 0 0) = Y at a1 a2 e7
      have hk20 : k ≤ 20 := Nat.not_lt.mp (fun w => c1' (nI_lt (a := 20) w (by omega)))
      have b1 := a1.pt (q := 43 + v) (j := 5) (z := nI k) (by omega) (Or.inl (by decide))
      have b2 := RS_ut (z := nI k) hT hC a2 hv (Or.inr (Or.inr (Or.inr (Or.inl ⟨rfl, rfl⟩)))) (RG_up1 hT hC a2.2.2.1 (fun _ _ w => absurd w (by omega)) (fun _ _ w => absurd w (by omega)) (fun _ _ w => absurd w (by omega)) (fun _ _ w => absurd w (by omega)) (fun _ _ w => absurd w (by omega)) (fun _ _ _ _ w => absurd w (by omega))) (ZR_up1 a2.2.2.2 (fun _ _ w => absurd w (by omega)) (fun _ _ _ => ⟨k, hk20, rfl⟩))
      rw [← shf_pt (R := X) (i := 40) (m := 43 + v) (by omega), ← pt_eq (R := Y) (k := 8)] at b2
      have b1' : TR R0 (pt X (43 + v) 5 (nI k)) M0 (pt Y 8 (13 + v) (nI k)) := b1.m8 (fun q hq => pt_k hq)
      obtain ⟨d1, d2⟩ := wall_loop hT hC t1 c1 (N := N) (by omega) 21 0 (pt Y 8 (13 + v) (nI k)) (by omega) (by omega) b1'
      obtain ⟨f1, f2⟩ := tr_go (N := N) hT hC hk (by omega) b1' b2
      rw [Nat.sub_zero] at d2
      rw [← d2] at f2
      generalize d_X7_walled_L70 (nI N) 21 (pt Y 8 (13 + v) (nI k)) 0 = Y' at d1 d2 f2 e7
      have e6' := e6.trans (oc_some (tri_at hT a2 hv))
      generalize spl (pt X (43 + v) 5 (nI k)) 40 15 (d_X3_goBy (shf (pt X (43 + v) 5 (nI k)) 40) (nI N)) = X' at f1 f2 e6'
      have f3 : TR R0 X' M0 Y' := f1.m8 d1
      obtain ⟨p1, -⟩ := tri_T f2 hv
      have n1 : ¬ (1 : Int32) = 0 := by decide
      have e6'' : d_X6_walled_L39 (nI v) (nI N) (n + 1) R k = if (d_X6_standsWith R (nI v) (nI k) (nI N)).1 = 0 then d_X6_walled_L39 (nI v) (nI N) n (d_X6_standsWith R (nI v) (nI k) (nI N)).2 (k + 1) else .inl (nI k, (d_X6_standsWith R (nI v) (nI k) (nI N)).2) := by
        rw [d_X6_walled_L39]; exact (if_neg c1').trans (lt_eq rfl)
      by_cases g : Y' 8 (25 + v) = 0
      · rw [if_pos (by rw [p1]; exact g)] at e6'
        rw [e6', if_neg n1] at e6''
        rw [if_pos g] at e7
        exact Or.inl ⟨nI k, X', Y', e6'', e7, f3⟩
      · rw [if_neg (by rw [p1]; exact g)] at e6'
        rw [e6', if_pos rfl] at e6''
        rw [if_neg g] at e7
        rw [e6'', e7]
        exact ih (k + 1) X' Y' (by omega) f3
theorem s_walled {R M : Nat → Nat → Int32} {t n : Int32} (h : Inv R M) : (d_X6_walled R t n).1 = (d_X7_walled M t n).1 ∧ Inv (d_X6_walled R t n).2 (d_X7_walled M t n).2 := by
  have h' := h
  obtain ⟨T, C, hT, hC, t1, c1, k1, -, hnow, -⟩ := h'
  have n1 : ¬ (1 : Int32) = 0 := by decide
  have n0 : ¬ (0 : Int32) = 1 := by decide
  rcases town_cases (Q := shf M 0) (t := t) hT t1 (RS_t hnow) with ⟨v, hv, rfl, e1, e2⟩ | ⟨e1, e2⟩
  · have c0 : (nI v).toNatClampNeg = v := nI_clamp (by omega)
    by_cases g : n < 1 ∨ 20 < n
    · have e7 : d_X7_walled M (nI v) n = (-1, M) := by rw [d_X7_walled]; exact (lt_eq e2.symm).trans ((if_neg n1).trans ((lt_eq (y := 0) (by rw [in_eq, if_pos g])).trans (if_pos rfl)))
      have e6 : d_X6_walled R (nI v) n = (-1, R) := by
        rw [d_X6_walled]
        refine (oc_some e1).trans ?_
        by_cases g2 : n < 1
        · exact if_pos g2
        · exact (if_neg g2).trans (if_neg (Int32.not_le.mpr (g.resolve_left g2)))
      rw [e6, e7]; exact ⟨rfl, h⟩
    · obtain ⟨N, hN, rfl⟩ := rg_in (N := 20) (fun w => g (Or.inl (Int32.lt_trans w (by decide)))) (fun w => g (Or.inr w)) (by decide)
      have i1 : d_X7_in (nI N) 1 20 = 1 := by rw [in_eq, if_neg g]
      have q1 : R (25 + v) 1 = M 6 (25 + v) := (now_T hnow hv).1
      rcases (hnow.2.2.1.1 v hv).2.1 with b1 | b1
      · have e6 : d_X6_walled R (nI v) (nI N) = sc (d_X6_walled_L39 (nI v) (nI N) 22 R 0) (fun r => r) fun w => (-4, w) := by
          rw [d_X6_walled]; exact (oc_some e1).trans ((if_neg (fun w => g (Or.inl w))).trans ((if_pos (Int32.not_lt.mp (fun w => g (Or.inr w)))).trans (if_pos (by rw [q1]; exact b1))))
        have e7 : d_X7_walled M (nI v) (nI N) = sc (d_X7_walled_L38 (nI v) (nI N) 22 M 0) (fun r => r) fun w => (-4, w) := by
          rw [d_X7_walled, c0]; exact (lt_eq e2.symm).trans ((if_neg n1).trans ((lt_eq i1.symm).trans ((if_neg n1).trans (if_neg (by rw [b1]; exact n0)))))
        rcases walled_loop hT hC t1 c1 k1 hnow hN hv 22 0 R M (by omega) (TR.start h) with ⟨z, R', M', w1, w2, w3⟩ | ⟨R', M', w1, w2, w3⟩
        · rw [e6, e7, w1, w2]; exact ⟨rfl, w3.inv h⟩
        · rw [e6, e7, w1, w2]; exact ⟨rfl, w3.inv h⟩
      · have e6 : d_X6_walled R (nI v) (nI N) = (-2, R) := by
          rw [d_X6_walled]; exact (oc_some e1).trans ((if_neg (fun w => g (Or.inl w))).trans ((if_pos (Int32.not_lt.mp (fun w => g (Or.inr w)))).trans (if_neg (by rw [q1, b1]; exact n1))))
        have e7 : d_X7_walled M (nI v) (nI N) = (-2, M) := by
          rw [d_X7_walled, c0]; exact (lt_eq e2.symm).trans ((if_neg n1).trans ((lt_eq i1.symm).trans ((if_neg n1).trans (if_pos b1))))
        rw [e6, e7]; exact ⟨rfl, h⟩
  · have e6 : d_X6_walled R t n = (-1, R) := by rw [d_X6_walled]; exact oc_none e1
    have e7 : d_X7_walled M t n = (-1, M) := by rw [d_X7_walled]; exact (lt_eq e2.symm).trans (if_pos rfl)
    rw [e6, e7]; exact ⟨rfl, h⟩
