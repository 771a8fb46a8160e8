/-! the other items -/
theorem man_eq {C : Nat} {r : Nat → Nat → Int32} {m g : Int32} (hC : C ≤ 3) (hr : ∀ c, c < 3 → (r (9 + 2 * c) 0 = 0 ↔ ¬ c < C)) : d_X3_man r m g = if ¬ (m < 1 ∨ 60 < m) ∧ ¬ (g < 1 ∨ 60 < g) ∧ C < 3 then (1, d_X3_man_L73 (nI C) 7 (pt (pt (pt (pt r (9 + 2 * C) 0 1) (9 + 2 * C) 1 0) (9 + 2 * C) 2 m) (9 + 2 * C) 3 g) 0) else (0, r) := by
  rw [d_X3_man, crewsThere_eq hC hr]
  refine (lt_eq rfl).trans ?_
  rw [nI_clamp (show C < 2 ^ 31 by omega)]
  by_cases g1 : m < 1
  · rw [if_pos g1, if_neg (fun z => z.1 (Or.inl g1))]
  · rw [if_neg g1]
    by_cases g2 : 60 < m
    · rw [if_pos g2, if_neg (fun z => z.1 (Or.inr g2))]
    · rw [if_neg g2]
      by_cases g3 : g < 1
      · rw [if_pos g3, if_neg (fun z => z.2.1 (Or.inl g3))]
      · rw [if_neg g3]
        by_cases g4 : 60 < g
        · rw [if_pos g4, if_neg (fun z => z.2.1 (Or.inr g4))]
        · rw [if_neg g4]
          by_cases g5 : C < 3
          · rw [if_pos (nI_lt g5 (by decide)), if_pos ⟨fun z => z.elim g1 g2, fun z => z.elim g3 g4, g5⟩]; exact lt_eq rfl
          · rw [if_neg (nI_nlt (by omega) (by omega)), if_neg (fun z => g5 z.2.2)]
theorem rg60 {x : Int32} (h : rg 99 x) (g : ¬ (x < 1 ∨ 60 < x)) : rg 60 x := by
  obtain ⟨w, hw, e⟩ := h
  refine ⟨w, ?_, e⟩
  rw [e] at g
  exact Nat.not_lt.mp (fun z => g (Or.inr (nI_lt (a := 60) z (by omega))))
theorem item_c {T C n p : Nat} {x r Rd M : Nat → Nat → Int32} (h : LT (x 0) n (M 1)) (hn : n ≤ 200) (hp : p < n) (h0 : M 0 0 = nI n) (h2 : M 0 2 = nI p) (hs : SR T C r M) (hl : M 1 p = 99) : IP n p x r Rd M := by
  obtain ⟨hT, hC, s5, s6, s7, hRS, hZX, hZB⟩ := hs
  have n1 : ¬ (1 : Int32) = 0 := by decide
  have hx : x 0 p = 99 := (h p hp).1.trans hl
  have cp : (nI p).toNatClampNeg = p := nI_clamp (by omega)
  have el : d_X7_letterAt (shf M 0) (shf M 1) (nI p) = 99 := by
    rw [letter_eq (Q := shf M 0) h0 hn (by omega), if_neg (by omega)]; exact hl
  have P1 : pt M 0 2 (nI (p + 1)) 1 = M 1 := pt_k (by decide)
  have hri := row_item (x := x) (P := pt M 0 2 (nI (p + 1))) (Rd := Rd) (k := 2) (by rw [P1]; exact h) hn (by decide) (by decide) hp (by rw [hx]; rfl) (by rw [pt_eq, up_o (by decide)]; exact h0) (by rw [pt_eq, up_e])
  have tk : ∀ Rd' : Nat → Nat → Int32, d_X2_takes Rd' r (x 0 p) = d_X3_man r (Rd' 1 0) (Rd' 1 1) := fun Rd' => by
    rw [d_X2_takes, hx]; exact (if_neg (by decide)).trans ((if_pos rfl).trans (lt_eq rfl))
  have n116 : ¬ (99 : Int32) = 116 := by decide
  by_cases g6 : C = 3
  · have e7 : d_X7_isItem M = (0, pt M 0 2 (nI (p + 1))) := by
      rw [d_X7_isItem, h2, cp]; exact (lt_eq el.symm).trans ((if_neg n116).trans ((if_pos rfl).trans (if_pos (by rw [s6, g6]; rfl))))
    refine Or.inl ⟨_, e7, FRM_P, ?_⟩
    rcases hri with ⟨Rd', Q', Rn', y1, -, -⟩ | ⟨Rd', p', Q', Rn', y1, -, -, -, -, y6, -⟩
    · exact Or.inl ⟨Rd', y1⟩
    · refine Or.inr ⟨p', Rd', y1, by omega, ?_⟩
      rw [tk, man_eq hC (RS_c hRS), if_neg (fun z => absurd z.2.2 (by omega))]
  · have g5 : ¬ M 0 6 = 3 := by rw [s6]; exact fun w => g6 ((nI_eq (b := 3) (by omega) (by decide)).mp w)
    rcases hri with ⟨Rd', Q', Rn', y1, y2, y3⟩ | ⟨Rd', p', Q', Rn', y1, y2, y3, y4, y5, y6, y7⟩
    · have e7 : d_X7_isItem M = (0, spl (spl (pt M 0 2 (nI (p + 1))) 0 1 Q') 2 1 Rn') := by
        rw [d_X7_isItem, h2, cp]; exact (lt_eq el.symm).trans ((if_neg n116).trans ((if_pos rfl).trans ((if_neg g5).trans ((lt_eq y2.symm).trans (if_pos rfl)))))
      exact Or.inl ⟨_, e7, FRM_S y3, Or.inl ⟨Rd', y1⟩⟩
    · have cC : (nI C).toNatClampNeg = C := nI_clamp (by omega)
      obtain ⟨z0, z0'⟩ := y7 0 (by decide)
      obtain ⟨z1, z1'⟩ := y7 1 (by decide)
      have fS := FRM_S (M := M) (Rn := Rn') y3
      have S0 : spl (spl (pt M 0 2 (nI (p + 1))) 0 1 Q') 2 1 Rn' 0 = Q' 0 := by rw [spl_out (by omega), spl_in (by omega)]
      have S3 : spl (spl (pt M 0 2 (nI (p + 1))) 0 1 Q') 2 1 Rn' 3 = M 3 := by rw [spl_out (by omega), spl_out (by omega), pt_k (by decide)]
      have S4 : spl (spl (pt M 0 2 (nI (p + 1))) 0 1 Q') 2 1 Rn' 4 = M 4 := by rw [spl_out (by omega), spl_out (by omega), pt_k (by decide)]
      have e7 : ∀ z, (if (if Rn' 0 0 < 1 ∨ 60 < Rn' 0 0 then (0 : Int32) else 1) = 0 then ((0 : Int32), spl (spl (pt M 0 2 (nI (p + 1))) 0 1 Q') 2 1 Rn') else if (if Rn' 0 1 < 1 ∨ 60 < Rn' 0 1 then (0 : Int32) else 1) = 0 then ((0 : Int32), spl (spl (pt M 0 2 (nI (p + 1))) 0 1 Q') 2 1 Rn') else ((1 : Int32), pt (pt (pt (spl (spl (pt M 0 2 (nI (p + 1))) 0 1 Q') 2 1 Rn') 4 (37 + C) (Rn' 0 0)) 4 (40 + C) (Rn' 0 1)) 0 6 (nI (C + 1)))) = z → d_X7_isItem M = z := fun z hz => by
        rw [d_X7_isItem, h2, cp]
        refine (lt_eq el.symm).trans ((if_neg n116).trans ((if_pos rfl).trans ((if_neg g5).trans ((lt_eq y2.symm).trans ((if_neg n1).trans ?_)))))
        dsimp only
        rw [s6, cC, in_eq, in_eq]
        refine (lt_eq rfl).trans (Eq.trans ?_ hz)
        by_cases w : (if Rn' 0 0 < 1 ∨ 60 < Rn' 0 0 then (0 : Int32) else 1) = 0
        · rw [if_pos w, if_pos w]
        · rw [if_neg w, if_neg w]; exact lt_eq rfl
      generalize spl (spl (pt M 0 2 (nI (p + 1))) 0 1 Q') 2 1 Rn' = S at fS S0 S3 S4 e7
      have bad : d_X7_isItem M = (0, S) → ¬ (¬ (Rn' 0 0 < 1 ∨ 60 < Rn' 0 0) ∧ ¬ (Rn' 0 1 < 1 ∨ 60 < Rn' 0 1) ∧ C < 3) → IP n p x r Rd M := fun e w => Or.inl ⟨S, e, fS, Or.inr ⟨p', Rd', y1, by omega, by rw [tk, z0, z1, man_eq hC (RS_c hRS), if_neg w]⟩⟩
      by_cases g1 : Rn' 0 0 < 1 ∨ 60 < Rn' 0 0
      · exact bad (e7 _ (if_pos (if_pos g1))) (fun w => w.1 g1)
      · have g1' : ¬ (if Rn' 0 0 < 1 ∨ 60 < Rn' 0 0 then (0 : Int32) else 1) = 0 := by rw [if_neg g1]; exact n1
        by_cases g2 : Rn' 0 1 < 1 ∨ 60 < Rn' 0 1
        · exact bad (e7 _ ((if_neg g1').trans (if_pos (if_pos g2)))) (fun w => w.2.1 g2)
        · have g2' : ¬ (if Rn' 0 1 < 1 ∨ 60 < Rn' 0 1 then (0 : Int32) else 1) = 0 := by rw [if_neg g2]; exact n1
          have tk' := tk Rd'
          rw [z0, z1, man_eq hC (RS_c hRS), if_pos ⟨g1, g2, by omega⟩] at tk'
          have e7' := e7 _ ((if_neg g1').trans (if_neg g2'))
          generalize hM' : pt (pt (pt S 4 (37 + C) (Rn' 0 0)) 4 (40 + C) (Rn' 0 1)) 0 6 (nI (C + 1)) = M' at e7'
          have m0 : ∀ j, j ≠ 6 → M' 0 j = Q' 0 j := fun j hj => by rw [← hM', pt_eq, up_o hj, pt_k (by decide), pt_k (by decide), S0]
          have m06 : M' 0 6 = nI (C + 1) := by rw [← hM', pt_i]
          have m3 : M' 3 = M 3 := by rw [← hM', pt_k (by decide), pt_k (by decide), pt_k (by decide), S3]
          have m4 : M' 4 = upd (upd (M 4) (37 + C) (Rn' 0 0)) (40 + C) (Rn' 0 1) := by rw [← hM', pt_k (by decide), pt_eq, pt_eq, S4]
          have m7 : M' 0 7 = M 0 7 := by rw [m0 7 (by decide), y3 7 (by decide), pt_eq, up_o (by decide)]
          have fM : FRM M M' := ⟨fun q a b d e => by rw [← hM', pt_k a, pt_k e, pt_k e]; exact fS.1 q a b d e, fun j a b d e => by rw [m0 j d, y3 j a, pt_eq, up_o a]⟩
          obtain ⟨l1, l2, l3⟩ := believe_loop (u := nI C) (o := C) cC 7 0 (pt (pt (pt (pt r (9 + 2 * C) 0 1) (9 + 2 * C) 1 0) (9 + 2 * C) 2 (Rn' 0 0)) (9 + 2 * C) 3 (Rn' 0 1)) (by decide) (by decide)
          generalize d_X3_man_L73 (nI C) 7 (pt (pt (pt (pt r (9 + 2 * C) 0 1) (9 + 2 * C) 1 0) (9 + 2 * C) 2 (Rn' 0 0)) (9 + 2 * C) 3 (Rn' 0 1)) 0 = r' at tk' l1 l2 l3
          have ro : ∀ q, q ≠ 9 + 2 * C → q ≠ 10 + 2 * C → r' q = r q := fun q a b => by rw [l1 q b, pt_k a, pt_k a, pt_k a, pt_k a]
          have hRS' := RS_addC (m := Rn' 0 0) (g := Rn' 0 1) (r' := r') hT (show C < 3 by omega) hRS hZX (rg_mono (rg60 z0' g1) (by decide)) (rg60 z1' g2) ro
            (by rw [l1 _ (by omega), pt_o (by omega), pt_o (by omega), pt_o (by omega), pt_i])
            (by rw [l1 _ (by omega), pt_o (by omega), pt_o (by omega), pt_i])
            (by rw [l1 _ (by omega), pt_o (by omega), pt_i])
            (by rw [l1 _ (by omega), pt_i])
            (by rw [l1 _ (by omega), pt_o (by omega), pt_o (by omega), pt_o (by omega), pt_o (by omega)])
            (fun t ht => l3 t (Nat.zero_le _) ht)
          refine Or.inr ⟨M', p', Rd', r', T, C + 1, e7', fM, y1, tk', y5, y6, by rw [m0 2 (by decide)]; exact y4, hT, by omega, ?_, m06, ?_, ?_, ?_, ?_⟩
          · rw [m0 5 (by decide), y3 5 (by decide), pt_eq, up_o (by decide)]; exact s5
          · rw [m7]; exact s7
          · rw [m3, m4, m7]; exact hRS'
          · rw [m4]
            refine ⟨?_, fun k h1 h2 => ?_, fun k h1 h2 => ?_⟩
            · rw [up_o (by omega), up_o (by omega)]; exact hZX.1
            · rw [up_o (by omega), up_o (by omega)]; exact hZX.2.1 k h1 h2
            · rw [up_o (by omega), up_o (by omega)]; exact hZX.2.2 k h1 h2
          · intro c hc t ht
            by_cases e : c = C
            · subst e; exact l3 t (Nat.zero_le _) ht
            · rw [ro _ (by omega) (by omega)]; exact hZB c (by omega) t ht
theorem way_eq {T C : Nat} {kd : Nat → Int32} {cost : Int32} {r : Nat → Nat → Int32} {a : Nat → Int32} {u : Nat} {k : Int32} (hT : T ≤ 6) (hu : u ≤ 99) (h : RS T C kd cost r a) : d_X3_goWay r (nI u) k = if u < T ∧ k < 4 then (1, pt r (3 + u) 6 k) else (0, r) := by
  rw [d_X3_goWay]
  by_cases g : u < T
  · refine (oc_some (tri_at hT h g)).trans ?_
    by_cases g2 : k < 4
    · rw [if_pos g2, if_pos ⟨g, g2⟩]
    · rw [if_neg g2, if_neg (fun z => g2 z.2)]
  · rw [if_neg (fun z => g z.1)]
    refine oc_none ?_
    unfold d_X3_townAt
    rw [if_neg (nI_pos (by omega))]
    by_cases g6 : 6 ≤ u
    · rw [if_pos (nI_le g6 (by omega))]
    · rw [if_neg (nI_ge (by omega) (by omega)), nI_clamp (by omega), if_pos ((RS_t h u (by omega)).mpr g)]
theorem item_w {T C n p : Nat} {x r Rd M : Nat → Nat → Int32} (h : LT (x 0) n (M 1)) (hn : n ≤ 200) (hp : p < n) (h0 : M 0 0 = nI n) (h2 : M 0 2 = nI p) (hs : SR T C r M) (hl : M 1 p = 119) : IP n p x r Rd M := by
  obtain ⟨hT, hC, s5, s6, s7, hRS, hZX, hZB⟩ := hs
  have n1 : ¬ (1 : Int32) = 0 := by decide
  have hx : x 0 p = 119 := (h p hp).1.trans hl
  have cp : (nI p).toNatClampNeg = p := nI_clamp (by omega)
  have el : d_X7_letterAt (shf M 0) (shf M 1) (nI p) = 119 := by
    rw [letter_eq (Q := shf M 0) h0 hn (by omega), if_neg (by omega)]; exact hl
  have P1 : pt M 0 2 (nI (p + 1)) 1 = M 1 := pt_k (by decide)
  have hri := row_item (x := x) (P := pt M 0 2 (nI (p + 1))) (Rd := Rd) (k := 2) (by rw [P1]; exact h) hn (by decide) (by decide) hp (by rw [hx]; rfl) (by rw [pt_eq, up_o (by decide)]; exact h0) (by rw [pt_eq, up_e])
  have tk : ∀ Rd' : Nat → Nat → Int32, d_X2_takes Rd' r (x 0 p) = d_X3_goWay r (Rd' 1 0) (Rd' 1 1) := fun Rd' => by
    rw [d_X2_takes, hx]; exact (if_neg (by decide)).trans ((if_neg (by decide)).trans ((if_pos rfl).trans (lt_eq rfl)))
  have n116 : ¬ (119 : Int32) = 116 := by decide
  have n99 : ¬ (119 : Int32) = 99 := by decide
  rcases hri with ⟨Rd', Q', Rn', y1, y2, y3⟩ | ⟨Rd', p', Q', Rn', y1, y2, y3, y4, y5, y6, y7⟩
  · have e7 : d_X7_isItem M = (0, spl (spl (pt M 0 2 (nI (p + 1))) 0 1 Q') 2 1 Rn') := by
      rw [d_X7_isItem, h2, cp]; exact (lt_eq el.symm).trans ((if_neg n116).trans ((if_neg n99).trans ((if_pos rfl).trans ((lt_eq y2.symm).trans (if_pos rfl)))))
    exact Or.inl ⟨_, e7, FRM_S y3, Or.inl ⟨Rd', y1⟩⟩
  · have q5 : Q' 0 5 = nI T := by rw [y3 5 (by decide), pt_eq, up_o (by decide)]; exact s5
    obtain ⟨z0, ⟨u, hu, eu⟩⟩ := y7 0 (by decide)
    obtain ⟨z1, z1'⟩ := y7 1 (by decide)
    have cu : (nI u).toNatClampNeg = u := nI_clamp (by omega)
    have fS := FRM_S (M := M) (Rn := Rn') y3
    have S0 : spl (spl (pt M 0 2 (nI (p + 1))) 0 1 Q') 2 1 Rn' 0 = Q' 0 := by rw [spl_out (by omega), spl_in (by omega)]
    have S3 : spl (spl (pt M 0 2 (nI (p + 1))) 0 1 Q') 2 1 Rn' 3 = M 3 := by rw [spl_out (by omega), spl_out (by omega), pt_k (by decide)]
    have S4 : spl (spl (pt M 0 2 (nI (p + 1))) 0 1 Q') 2 1 Rn' 4 = M 4 := by rw [spl_out (by omega), spl_out (by omega), pt_k (by decide)]
    have e7 : ∀ z, (if nI T ≤ nI u then ((0 : Int32), spl (spl (pt M 0 2 (nI (p + 1))) 0 1 Q') 2 1 Rn') else if Rn' 0 1 ≤ 3 then ((1 : Int32), pt (spl (spl (pt M 0 2 (nI (p + 1))) 0 1 Q') 2 1 Rn') 4 (19 + u) (Rn' 0 1)) else ((0 : Int32), spl (spl (pt M 0 2 (nI (p + 1))) 0 1 Q') 2 1 Rn')) = z → d_X7_isItem M = z := fun z hz => by
      rw [d_X7_isItem, h2, cp]
      refine (lt_eq el.symm).trans ((if_neg n116).trans ((if_neg n99).trans ((if_pos rfl).trans ((lt_eq y2.symm).trans ((if_neg n1).trans ?_)))))
      refine Eq.trans ?_ hz
      by_cases w : nI T ≤ nI u
      · exact (if_pos (show Q' 0 5 ≤ Rn' 0 0 by rw [q5, eu]; exact w)).trans (if_pos w).symm
      · refine (if_neg (show ¬ Q' 0 5 ≤ Rn' 0 0 by rw [q5, eu]; exact w)).trans (Eq.trans ?_ (if_neg w).symm)
        dsimp only
        rw [eu, cu]
    generalize spl (spl (pt M 0 2 (nI (p + 1))) 0 1 Q') 2 1 Rn' = S at fS S0 S3 S4 e7
    have bad : d_X7_isItem M = (0, S) → ¬ (u < T ∧ Rn' 0 1 < 4) → IP n p x r Rd M := fun e w => Or.inl ⟨S, e, fS, Or.inr ⟨p', Rd', y1, by omega, by rw [tk, z0, z1, eu, way_eq hT hu hRS, if_neg w]⟩⟩
    by_cases g1 : T ≤ u
    · exact bad (e7 _ (if_pos (nI_le g1 (by omega)))) (fun w => absurd w.1 (by omega))
    · have g1' : ¬ nI T ≤ nI u := nI_ge (by omega) (by omega)
      have g23 : Rn' 0 1 ≤ 3 ↔ Rn' 0 1 < 4 := by
        obtain ⟨w, hw, ew⟩ := z1'
        rw [ew]
        have a := nI_leI (a := w) (b := 3) (by omega) (by decide)
        have b := nI_ltI (a := w) (b := 4) (by omega) (by decide)
        exact ⟨fun z => b.mpr (by have := a.mp z; omega), fun z => a.mpr (by have := b.mp z; omega)⟩
      by_cases g2 : Rn' 0 1 ≤ 3
      · have tk' := tk Rd'
        rw [z0, z1, eu, way_eq hT hu hRS, if_pos ⟨by omega, g23.mp g2⟩] at tk'
        have e7' := e7 _ ((if_neg g1').trans (if_pos g2))
        generalize hM' : pt S 4 (19 + u) (Rn' 0 1) = M' at e7'
        have m0 : M' 0 = Q' 0 := by rw [← hM', pt_k (by decide), S0]
        have m3 : M' 3 = M 3 := by rw [← hM', pt_k (by decide), S3]
        have m4 : M' 4 = upd (M 4) (19 + u) (Rn' 0 1) := by rw [← hM', pt_eq, S4]
        have m7 : M' 0 7 = M 0 7 := by rw [m0, y3 7 (by decide), pt_eq, up_o (by decide)]
        have fM : FRM M M' := ⟨fun q a b d e => by rw [← hM', pt_k e]; exact fS.1 q a b d e, fun j a b d e => by rw [m0, y3 j a, pt_eq, up_o a]⟩
        refine Or.inr ⟨M', p', Rd', _, T, C, e7', fM, y1, tk', y5, y6, by rw [m0]; exact y4, hT, hC, ?_, ?_, ?_, ?_, ?_, ?_⟩
        · rw [m0]; exact q5
        · rw [m0, y3 6 (by decide), pt_eq, up_o (by decide)]; exact s6
        · rw [m7]; exact s7
        · rw [m3, m4, m7]; exact RS_way hT hC hRS (by omega)
        · rw [m4]
          refine ⟨?_, fun k h1 h2 => ?_, fun k h1 h2 => ?_⟩
          · rw [up_o (by omega)]; exact hZX.1
          · rw [up_o (by omega)]; exact hZX.2.1 k h1 h2
          · rw [up_o (by omega)]; exact hZX.2.2 k h1 h2
        · intro c hc t ht
          rw [pt_k (by omega)]; exact hZB c hc t ht
      · exact bad (e7 _ ((if_neg g1').trans (if_neg g2))) (fun w => g2 (g23.mpr w.2))
theorem item_b {T C n p : Nat} {x r Rd M : Nat → Nat → Int32} (h : LT (x 0) n (M 1)) (hn : n ≤ 200) (hp : p < n) (h0 : M 0 0 = nI n) (h2 : M 0 2 = nI p) (hs : SR T C r M) (hl : M 1 p = 98) : IP n p x r Rd M := by
  obtain ⟨hT, hC, s5, s6, s7, hRS, hZX, hZB⟩ := hs
  have n1 : ¬ (1 : Int32) = 0 := by decide
  have hx : x 0 p = 98 := (h p hp).1.trans hl
  have cp : (nI p).toNatClampNeg = p := nI_clamp (by omega)
  have el : d_X7_letterAt (shf M 0) (shf M 1) (nI p) = 98 := by
    rw [letter_eq (Q := shf M 0) h0 hn (by omega), if_neg (by omega)]; exact hl
  have P1 : pt M 0 2 (nI (p + 1)) 1 = M 1 := pt_k (by decide)
  have hri := row_item (x := x) (P := pt M 0 2 (nI (p + 1))) (Rd := Rd) (k := 1) (by rw [P1]; exact h) hn (by decide) (by decide) hp (by rw [hx]; rfl) (by rw [pt_eq, up_o (by decide)]; exact h0) (by rw [pt_eq, up_e])
  have tk : ∀ Rd' : Nat → Nat → Int32, d_X2_takes Rd' r (x 0 p) = if Rd' 1 0 < 1 ∨ 30 < Rd' 1 0 then (0, r) else (1, pt r 0 2 (Rd' 1 0)) := fun Rd' => by
    rw [d_X2_takes, hx, d_X3_costWalls]
    refine (if_neg (by decide)).trans ((if_neg (by decide)).trans ((if_neg (by decide)).trans ((if_pos rfl).trans ?_)))
    by_cases w1 : Rd' 1 0 < 1
    · rw [if_pos w1, if_pos (Or.inl w1)]; exact (lt_eq rfl).trans (if_pos rfl)
    · rw [if_neg w1]
      by_cases w2 : Rd' 1 0 ≤ 30
      · rw [if_pos w2, if_neg (fun z => z.elim w1 (Int32.not_lt.mpr w2))]; exact (lt_eq rfl).trans (if_neg n1)
      · rw [if_neg w2, if_pos (Or.inr (Int32.not_le.mp w2))]; exact (lt_eq rfl).trans (if_pos rfl)
  have n116 : ¬ (98 : Int32) = 116 := by decide
  have n99 : ¬ (98 : Int32) = 99 := by decide
  have n119 : ¬ (98 : Int32) = 119 := by decide
  rcases hri with ⟨Rd', Q', Rn', y1, y2, y3⟩ | ⟨Rd', p', Q', Rn', y1, y2, y3, y4, y5, y6, y7⟩
  · have e7 : d_X7_isItem M = (0, spl (spl (pt M 0 2 (nI (p + 1))) 0 1 Q') 2 1 Rn') := by
      rw [d_X7_isItem, h2, cp]; exact (lt_eq el.symm).trans ((if_neg n116).trans ((if_neg n99).trans ((if_neg n119).trans ((if_pos rfl).trans ((lt_eq y2.symm).trans (if_pos rfl))))))
    exact Or.inl ⟨_, e7, FRM_S y3, Or.inl ⟨Rd', y1⟩⟩
  · obtain ⟨z0, z0'⟩ := y7 0 (by decide)
    have fS := FRM_S (M := M) (Rn := Rn') y3
    have S0 : spl (spl (pt M 0 2 (nI (p + 1))) 0 1 Q') 2 1 Rn' 0 = Q' 0 := by rw [spl_out (by omega), spl_in (by omega)]
    have S3 : spl (spl (pt M 0 2 (nI (p + 1))) 0 1 Q') 2 1 Rn' 3 = M 3 := by rw [spl_out (by omega), spl_out (by omega), pt_k (by decide)]
    have S4 : spl (spl (pt M 0 2 (nI (p + 1))) 0 1 Q') 2 1 Rn' 4 = M 4 := by rw [spl_out (by omega), spl_out (by omega), pt_k (by decide)]
    have e7 : ∀ z, (if (if Rn' 0 0 < 1 ∨ 30 < Rn' 0 0 then (0 : Int32) else 1) = 0 then ((0 : Int32), spl (spl (pt M 0 2 (nI (p + 1))) 0 1 Q') 2 1 Rn') else ((1 : Int32), pt (spl (spl (pt M 0 2 (nI (p + 1))) 0 1 Q') 2 1 Rn') 0 7 (Rn' 0 0))) = z → d_X7_isItem M = z := fun z hz => by
      rw [d_X7_isItem, h2, cp]
      refine (lt_eq el.symm).trans ((if_neg n116).trans ((if_neg n99).trans ((if_neg n119).trans ((if_pos rfl).trans ((lt_eq y2.symm).trans ((if_neg n1).trans ?_))))))
      dsimp only
      rw [in_eq]
      exact (lt_eq rfl).trans hz
    generalize spl (spl (pt M 0 2 (nI (p + 1))) 0 1 Q') 2 1 Rn' = S at fS S0 S3 S4 e7
    by_cases g1 : Rn' 0 0 < 1 ∨ 30 < Rn' 0 0
    · exact Or.inl ⟨S, e7 _ (if_pos (if_pos g1)), fS, Or.inr ⟨p', Rd', y1, by omega, by rw [tk, z0, if_pos g1]⟩⟩
    · have tk' := tk Rd'
      rw [z0, if_neg g1] at tk'
      have e7' := e7 _ (if_neg (by rw [if_neg g1]; exact n1))
      generalize hM' : pt S 0 7 (Rn' 0 0) = M' at e7'
      have m0 : ∀ j, j ≠ 7 → M' 0 j = Q' 0 j := fun j hj => by rw [← hM', pt_eq, up_o hj, S0]
      have m3 : M' 3 = M 3 := by rw [← hM', pt_k (by decide), S3]
      have m4 : M' 4 = M 4 := by rw [← hM', pt_k (by decide), S4]
      have m7 : M' 0 7 = Rn' 0 0 := by rw [← hM', pt_i]
      have fM : FRM M M' := ⟨fun q a b d e => by rw [← hM', pt_k a]; exact fS.1 q a b d e, fun j a b d e => by rw [m0 j e, y3 j a, pt_eq, up_o a]⟩
      have r30 : rg 30 (Rn' 0 0) := by
        obtain ⟨w, hw, ew⟩ := z0'
        refine ⟨w, ?_, ew⟩
        rw [ew] at g1
        exact Nat.not_lt.mp (fun z => g1 (Or.inr (nI_lt (a := 30) z (by omega))))
      refine Or.inr ⟨M', p', Rd', _, T, C, e7', fM, y1, tk', y5, y6, by rw [m0 2 (by decide)]; exact y4, hT, hC, ?_, ?_, ?_, ?_, ?_, ?_⟩
      · rw [m0 5 (by decide), y3 5 (by decide), pt_eq, up_o (by decide)]; exact s5
      · rw [m0 6 (by decide), y3 6 (by decide), pt_eq, up_o (by decide)]; exact s6
      · rw [m7]; exact r30
      · rw [m3, m4, m7]; exact RS_cost hRS
      · rw [m4]; exact hZX
      · intro c hc t ht
        rw [pt_k (by omega)]; exact hZB c hc t ht
theorem item_pair {T C n p : Nat} {x r Rd M : Nat → Nat → Int32} (h : LT (x 0) n (M 1)) (hn : n ≤ 200) (hp : p < n) (h0 : M 0 0 = nI n) (h2 : M 0 2 = nI p) (hs : SR T C r M) : IP n p x r Rd M := by
  by_cases g1 : M 1 p = 116
  · exact item_t h hn hp h0 h2 hs g1
  · by_cases g2 : M 1 p = 99
    · exact item_c h hn hp h0 h2 hs g2
    · by_cases g3 : M 1 p = 119
      · exact item_w h hn hp h0 h2 hs g3
      · by_cases g4 : M 1 p = 98
        · exact item_b h hn hp h0 h2 hs g4
        · have cp : (nI p).toNatClampNeg = p := nI_clamp (by omega)
          have hx : x 0 p = M 1 p := (h p hp).1
          have el : d_X7_letterAt (shf M 0) (shf M 1) (nI p) = M 1 p := by
            rw [letter_eq (Q := shf M 0) h0 hn (by omega), if_neg (by omega)]; rfl
          have e7 : d_X7_isItem M = (0, pt M 0 2 (nI (p + 1))) := by
            rw [d_X7_isItem, h2, cp]; exact (lt_eq el.symm).trans ((if_neg g1).trans ((if_neg g2).trans ((if_neg g3).trans (if_neg g4))))
          have e6 : d_X2_itemEnd Rd x 200 (nI n) (nI p) = (-4, Rd) := by
            have eb : d_X2_numbersBehind (x 0 p) = 0 := by
              rw [d_X2_numbersBehind, hx]; exact (if_neg g1).trans ((if_neg g2).trans ((if_neg g3).trans (if_neg g4)))
            rw [d_X2_itemEnd, cp]; exact (lt_eq eb.symm).trans (if_pos rfl)
          exact Or.inl ⟨_, e7, FRM_P, Or.inl ⟨Rd, e6⟩⟩
