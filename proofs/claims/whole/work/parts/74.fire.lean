/-! fire, walled -/
theorem tr_blk {T C : Nat} {kd : Nat → Int32} {cost : Int32} {R0 R M0 M w : Nat → Nat → Int32} {a : Nat → Int32} (hT : T ≤ 6) (h : TR R0 R M0 M) (hr : RS T C kd cost w a) : TR R0 (spl R 40 15 w) M0 M ∧ RS T C kd cost (shf (spl R 40 15 w) 40) a := by
  obtain ⟨h1, h2, h3, h4⟩ := h
  refine ⟨⟨fun q a b => by rw [spl_out (by omega), h1 q a b], h2, h3, fun c hc => ?_⟩, RS_to hT hr (fun k hk => ?_)⟩
  · rw [spl_in (by omega), show 40 + (9 + 2 * c) - 40 = 9 + 2 * c by omega]; exact RS_sp hr c hc
  · show spl R 40 15 w (40 + k) = w k
    rw [spl_in (by omega), show 40 + k - 40 = k by omega]
theorem stands_at {T C i : Nat} {kd : Nat → Int32} {cost : Int32} {r : Nat → Nat → Int32} {a : Nat → Int32} (hT : T ≤ 6) (h : RS T C kd cost r a) (hi : i < 6) : d_X3_standsAt r (nI i) = if i < T ∧ a (25 + i) = 0 then 1 else 0 := by
  rw [d_X3_standsAt]
  by_cases g : i < T
  · refine (oc_some (tri_at hT h g)).trans ?_
    have e : r (3 + i) 1 = a (25 + i) := (RS_T h g).1
    rw [e]
    by_cases g2 : a (25 + i) = 0
    · rw [if_pos g2, if_pos ⟨g, g2⟩]
    · rw [if_neg g2, if_neg (fun w => g2 w.2)]
  · have e : d_X3_townAt r (nI i) = none := by
      unfold d_X3_townAt
      rw [if_neg (nI_pos (by omega)), if_neg (nI_ge (by omega) (by omega)), nI_clamp (by omega), if_pos ((RS_t h i hi).mpr g)]
    exact (oc_none e).trans (if_neg (fun w => g w.1)).symm
theorem fb_eq {T C : Nat} {kd : Nat → Int32} {cost : Int32} {r b R u : Nat → Nat → Int32} {what : Int32} {k : Nat} (hT : T ≤ 6) (h10 : R 0 10 = nI T) (h : RS T C kd cost r (u 0)) (hb : RS T C kd cost b (R 6)) : ∀ n i, i ≤ 6 → 6 < i + n → (∃ j, j < T ∧ i ≤ j ∧ d_X3_firstBurntSince_L2 r b n i = .inl (nI j) ∧ d_X7_fire_L42 what R k u n i = .inl (if what = 0 then nI j else nI k, spl R 8 1 u)) ∨ (d_X3_firstBurntSince_L2 r b n i = .inr () ∧ d_X7_fire_L42 what R k u n i = .inr ()) := by
  intro n
  induction n with
  | zero => intro i h1 h2; exact absurd h2 (by omega)
  | succ n ih =>
    intro i h1 h2
    have n1 : ¬ (1 : Int32) = 0 := by decide
    have n0 : ¬ (0 : Int32) = 1 := by decide
    by_cases c6 : 6 ≤ i
    · refine Or.inr ⟨?_, ?_⟩
      · rw [d_X3_firstBurntSince_L2]; exact if_pos (nI_le c6 (by omega))
      · rw [d_X7_fire_L42, h10]; exact if_pos (nI_le (by omega) (by omega))
    · have s1 := stands_at hT hb (show i < 6 by omega)
      have s2 := stands_at hT h (show i < 6 by omega)
      have c6' : ¬ nI 6 ≤ nI i := nI_ge (by omega) (by omega)
      by_cases cT : T ≤ i
      · rw [if_neg (fun w => absurd w.1 (by omega))] at s1
        have e6 : d_X3_firstBurntSince_L2 r b (n + 1) i = d_X3_firstBurntSince_L2 r b n (i + 1) := by
          rw [d_X3_firstBurntSince_L2]; exact (if_neg c6').trans ((lt_eq s1.symm).trans (if_pos rfl))
        rcases ih (i + 1) (by omega) (by omega) with ⟨j, hj, hj2, -⟩ | ⟨g, -⟩
        · exact absurd hj (by omega)
        · exact Or.inr ⟨by rw [e6, g], by rw [d_X7_fire_L42, h10]; exact if_pos (nI_le cT (by omega))⟩
      · have cT' : ¬ R 0 10 ≤ nI i := by rw [h10]; exact nI_ge (by omega) (by omega)
        rcases (h.2.2.1.1 i (by omega)).2.1 with x1 | x1
        · have e7 : d_X7_fire_L42 what R k u (n + 1) i = d_X7_fire_L42 what R k u n (i + 1) := by
            rw [d_X7_fire_L42]; exact (if_neg cT').trans (if_neg (by rw [x1]; exact n0))
          have e6 : d_X3_firstBurntSince_L2 r b (n + 1) i = d_X3_firstBurntSince_L2 r b n (i + 1) := by
            rw [d_X3_firstBurntSince_L2]
            rw [if_pos ⟨by omega, x1⟩] at s2
            refine (if_neg c6').trans ((lt_eq s1.symm).trans ?_)
            by_cases g : (if i < T ∧ R 6 (25 + i) = 0 then (1 : Int32) else 0) = 0
            · exact if_pos g
            · exact (if_neg g).trans ((lt_eq s2.symm).trans (if_neg n1))
          rcases ih (i + 1) (by omega) (by omega) with ⟨j, hj, hj2, g1, g2⟩ | ⟨g1, g2⟩
          · exact Or.inl ⟨j, hj, by omega, by rw [e6, g1], by rw [e7, g2]⟩
          · exact Or.inr ⟨by rw [e6, g1], by rw [e7, g2]⟩
        · rw [if_neg (fun w => n1 (by rw [← x1]; exact w.2))] at s2
          by_cases x2 : R 6 (25 + i) = 0
          · rw [if_pos ⟨by omega, x2⟩] at s1
            refine Or.inl ⟨i, by omega, by omega, ?_, ?_⟩
            · rw [d_X3_firstBurntSince_L2]; exact (if_neg c6').trans ((lt_eq s1.symm).trans ((if_neg n1).trans ((lt_eq s2.symm).trans (if_pos rfl))))
            · rw [d_X7_fire_L42]
              refine (if_neg cT').trans ((if_pos x1).trans ((if_pos x2).trans ?_))
              by_cases g : what = 0
              · rw [if_pos g, if_pos g]
              · rw [if_neg g, if_neg g]
          · rw [if_neg (fun w => x2 w.2)] at s1
            have e7 : d_X7_fire_L42 what R k u (n + 1) i = d_X7_fire_L42 what R k u n (i + 1) := by
              rw [d_X7_fire_L42]; exact (if_neg cT').trans ((if_pos x1).trans (if_neg x2))
            have e6 : d_X3_firstBurntSince_L2 r b (n + 1) i = d_X3_firstBurntSince_L2 r b n (i + 1) := by
              rw [d_X3_firstBurntSince_L2]
              exact (if_neg c6').trans ((lt_eq s1.symm).trans (if_pos rfl))
            rcases ih (i + 1) (by omega) (by omega) with ⟨j, hj, hj2, g1, g2⟩ | ⟨g1, g2⟩
            · exact Or.inl ⟨j, hj, by omega, by rw [e6, g1], by rw [e7, g2]⟩
            · exact Or.inr ⟨by rw [e6, g1], by rw [e7, g2]⟩
theorem fire_loop {T C : Nat} {R0 M0 : Nat → Nat → Int32} {what : Int32} (hT : T ≤ 6) (hC : C ≤ 3) (t1 : M0 0 10 = nI T) (c1 : M0 0 11 = nI C) (hk : rg 30 (M0 0 12)) (hnow : RS T C (M0 5) (M0 0 12) (shf R0 22) (M0 6)) : ∀ n k R M, TR R0 R M0 M → RS T C (M0 5) (M0 0 12) (shf R 40) (M 8) → (∃ z R' M', d_X6_fire_L24 what n R k = .inl (z, R') ∧ d_X7_fire_L26 what n M k = .inl (z, M') ∧ TR R0 R' M0 M') ∨ (∃ R' M', d_X6_fire_L24 what n R k = .inr R' ∧ d_X7_fire_L26 what n M k = .inr M' ∧ TR R0 R' M0 M') := by
  intro n
  induction n with
  | zero => intro k R M h hr; exact Or.inr ⟨R, M, rfl, rfl, h⟩
  | succ n ih =>
    intro k R M h hr
    by_cases c1' : 30 < nI k
    · exact Or.inr ⟨R, M, by rw [d_X6_fire_L24]; exact if_pos c1', by rw [d_X7_fire_L26]; exact if_pos c1', h⟩
    · obtain ⟨g1, g2⟩ := tr_step hT hC t1 c1 hk h hr
      have e6' : d_X6_fire_L24 what (n + 1) R k = if d_X3_firstBurntSince (shf (spl R 40 15 (d_X3_goBy (shf R 40) 1)) 40) (shf (spl R 40 15 (d_X3_goBy (shf R 40) 1)) 22) = -4 then d_X6_fire_L24 what n (spl R 40 15 (d_X3_goBy (shf R 40) 1)) (k + 1) else if what = 0 then .inl (d_X3_firstBurntSince (shf (spl R 40 15 (d_X3_goBy (shf R 40) 1)) 40) (shf (spl R 40 15 (d_X3_goBy (shf R 40) 1)) 22), (spl R 40 15 (d_X3_goBy (shf R 40) 1))) else .inl (nI k, (spl R 40 15 (d_X3_goBy (shf R 40) 1))) := by
        rw [d_X6_fire_L24]; exact (if_neg c1').trans ((lt_eq rfl).trans (lt_eq rfl))
      have e7' : d_X7_fire_L26 what (n + 1) M k = sc (d_X7_fire_L42 what M k (d_X7_spring (shf M 0) (shf M 5) (shf M 8)) 7 0) (fun r => .inl r) fun _ => d_X7_fire_L26 what n (spl M 8 1 (d_X7_spring (shf M 0) (shf M 5) (shf M 8))) (k + 1) := by
        rw [d_X7_fire_L26]; exact (if_neg c1').trans (lt_eq rfl)
      generalize spl R 40 15 (d_X3_goBy (shf R 40) 1) = X at g1 g2 e6'
      have hb : RS T C (M0 5) (M0 0 12) (shf X 22) (M 6) := by
        rw [h.2.1 6 (by decide) (by decide) (by decide) (by decide)]
        exact RS_to hT hnow (fun k hk => g1.1 (22 + k) (by omega) (by omega))
      generalize d_X7_spring (shf M 0) (shf M 5) (shf M 8) = u at g1 g2 e7'
      rw [spl_in (by omega), Nat.sub_self] at g2
      have ef : d_X3_firstBurntSince (shf X 40) (shf X 22) = sc (d_X3_firstBurntSince_L2 (shf X 40) (shf X 22) 7 0) (fun r => r) fun _ => -4 := rfl
      rcases fb_eq (what := what) (k := k) hT ((h.2.2.1 10 (by decide)).trans t1) g2 hb 7 0 (by decide) (by decide) with ⟨j, hj, -, a1, a2⟩ | ⟨a1, a2⟩
      · have ef' : d_X3_firstBurntSince (shf X 40) (shf X 22) = nI j := by rw [ef, a1]; rfl
        have nj : ¬ nI j = -4 := fun w => by
          have : nI j < 0 := by rw [w]; decide
          exact nI_pos (by omega) this
        rw [ef', if_neg nj] at e6'
        rw [a2] at e7'
        refine Or.inl ⟨if what = 0 then nI j else nI k, X, spl M 8 1 u, ?_, e7', g1⟩
        rw [e6']
        by_cases w : what = 0
        · rw [if_pos w, if_pos w]
        · rw [if_neg w, if_neg w]
      · have ef' : d_X3_firstBurntSince (shf X 40) (shf X 22) = -4 := by rw [ef, a1]; rfl
        rw [ef', if_pos rfl] at e6'
        rw [a2] at e7'
        have e7'' : d_X7_fire_L26 what (n + 1) M k = d_X7_fire_L26 what n (spl M 8 1 u) (k + 1) := e7'
        rw [e6', e7'']
        exact ih (k + 1) X (spl M 8 1 u) g1 (by rw [spl_in (by omega), Nat.sub_self]; exact g2)
theorem s_fire {R M : Nat → Nat → Int32} {what : Int32} (h : Inv R M) : (d_X6_fire R what).1 = (d_X7_fire M what).1 ∧ Inv (d_X6_fire R what).2 (d_X7_fire M what).2 := by
  have h' := h
  obtain ⟨T, C, hT, hC, t1, c1, k1, -, hnow, -⟩ := h'
  have n1 : ¬ (1 : Int32) = 0 := by decide
  by_cases g : what < 0 ∨ 1 < what
  · have e7 : d_X7_fire M what = (-1, M) := by rw [d_X7_fire]; exact (lt_eq (y := 0) (by rw [in_eq, if_pos g])).trans (if_pos rfl)
    have e6 : d_X6_fire R what = (-1, R) := by
      rw [d_X6_fire]
      by_cases g2 : what < 0
      · exact if_pos g2
      · exact (if_neg g2).trans (if_neg (Int32.not_le.mpr (g.resolve_left g2)))
    rw [e6, e7]; exact ⟨rfl, h⟩
  · obtain ⟨a1, a2⟩ := tr_copy hT hC (TR.start h) (Or.inl ⟨rfl, rfl⟩) hnow
    have e6 : d_X6_fire R what = sc (d_X6_fire_L24 what 31 (spl R 40 15 (d_X3_copy (shf R 40) (shf R 22))) 1) (fun r => r) fun w => (-4, w) := by
      rw [d_X6_fire]; exact (if_neg (fun w => g (Or.inl w))).trans ((if_pos (Int32.not_lt.mp (fun w => g (Or.inr w)))).trans (lt_eq rfl))
    have e7 : d_X7_fire M what = sc (d_X7_fire_L26 what 31 (spl M 8 1 (d_X7_copy (shf M 6) (shf M 8) 64 64 0 0)) 1) (fun r => r) fun w => (-4, w) := by
      rw [d_X7_fire]; exact (lt_eq (y := 1) (by rw [in_eq, if_neg g])).trans ((if_neg n1).trans (lt_eq rfl))
    rcases fire_loop (what := what) hT hC t1 c1 k1 hnow 31 1 _ _ a1 a2 with ⟨z, R', M', b1, b2, b3⟩ | ⟨R', M', b1, b2, b3⟩
    · rw [e6, e7, b1, b2]; exact ⟨rfl, b3.inv h⟩
    · rw [e6, e7, b1, b2]; exact ⟨rfl, b3.inv h⟩
