/-! a row of numbers, on both sides -/
def sep (k i : Nat) : Int32 := if i + 1 = k then 59 else 44
theorem lastk {k i : Nat} (hk : 0 < k) (hk4 : k ≤ 4) (hi : i < k) : (nI i = nI k - 1) ↔ i + 1 = k := by
  obtain ⟨k', rfl⟩ : ∃ k', k = k' + 1 := ⟨k - 1, by omega⟩
  rw [nI_pred]
  exact ⟨fun w => by rw [(nI_eq (by omega) (by omega)).mp w], fun w => by rw [show i = k' by omega]⟩
theorem row6 {x : Nat → Nat → Int32} {v : Nat → Int32} {n k p i f : Nat} {Rd : Nat → Nat → Int32} (h : LT (x 0) n v) (hn : n ≤ 200) (hp : p ≤ 900) (hk : 0 < k) (hk4 : k ≤ 4) (hi : i < k) : d_X2_itemEnd_L24 x 200 (nI n) (nI k) (f + 1) Rd p i = if nd v n p = 0 then .inl (-4, Rd) else if p + nd v n p < n ∧ v (p + nd v n p) = sep k i then d_X2_itemEnd_L24 x 200 (nI n) (nI k) f (pt Rd 1 i (nI (nn v n p))) (p + nd v n p + 1) (i + 1) else .inl (-4, pt Rd 1 i (nI (nn v n p))) := by
  have nd2 : nd v n p ≤ 2 := by
    unfold nd
    by_cases g : isD v n p
    · rw [if_pos g]
      by_cases g2 : isD v n (p + 1)
      · rw [if_pos g2]; decide
      · rw [if_neg g2]; decide
    · rw [if_neg g]; decide
  have hfa := figs_eq h hn hp
  have hna := numat_eq h hn hp
  have cn : (nI (nd v n p)).toNatClampNeg = nd v n p := nI_clamp (by omega)
  rw [d_X2_itemEnd_L24, hfa]
  refine (if_neg (nI_ge hi (by omega))).trans ((if_neg (nI_ge (by omega) (by omega))).trans ((lt_eq rfl).trans ?_))
  by_cases g0 : nd v n p = 0
  · rw [if_pos g0]; exact if_pos (by rw [g0, nI_0])
  · rw [if_neg g0]
    refine (if_neg (nI_ne0 (by omega) (by omega))).trans ?_
    rw [hna, cn]
    refine (lt_eq rfl).trans ?_
    have ge : nI n ≤ nI (p + nd v n p) ↔ ¬ p + nd v n p < n := by
      rw [nI_leI (by omega) (by omega)]; omega
    by_cases g1 : i + 1 = k
    · have es : sep k i = 59 := if_pos g1
      refine (if_pos ((lastk hk hk4 hi).mpr g1)).trans ?_
      rw [es]
      by_cases g2 : p + nd v n p < n
      · refine (if_neg (fun w => (ge.mp w) g2)).trans ?_
        rw [(h _ g2).1]
        by_cases g3 : v (p + nd v n p) = 59
        · rw [if_pos g3, if_pos ⟨g2, g3⟩]
        · rw [if_neg g3, if_neg (fun w => g3 w.2)]
      · exact (if_pos (ge.mpr g2)).trans (if_neg (fun w => g2 w.1)).symm
    · have es : sep k i = 44 := if_neg g1
      refine (if_neg (fun w => g1 ((lastk hk hk4 hi).mp w))).trans ?_
      rw [es]
      by_cases g2 : p + nd v n p < n
      · refine (if_neg (fun w => (ge.mp w) g2)).trans ?_
        rw [(h _ g2).1]
        by_cases g3 : v (p + nd v n p) = 44
        · rw [if_pos g3, if_pos ⟨g2, g3⟩]
        · rw [if_neg g3, if_neg (fun w => g3 w.2)]
      · exact (if_pos (ge.mpr g2)).trans (if_neg (fun w => g2 w.1)).symm
theorem row7 {tx : Nat → Nat → Int32} {x : Nat → Int32} {n k p i f : Nat} {Q Rn : Nat → Nat → Int32} (h : LT x n (tx 0)) (hn : n ≤ 200) (hp : p ≤ 900) (hk : 0 < k) (hk4 : k ≤ 4) (hi : i < k) (h0 : Q 0 0 = nI n) (h2 : Q 0 2 = nI p) : ∃ Q', Q' 0 2 = nI (p + nd (tx 0) n p) ∧ (∀ j, j ≠ 2 → Q' 0 j = Q 0 j) ∧ d_X7_isRow_L2 tx (nI k) (f + 1) Q Rn i = if nd (tx 0) n p = 0 then .inl (0, Q', Rn) else if p + nd (tx 0) n p < n ∧ tx 0 (p + nd (tx 0) n p) = sep k i then d_X7_isRow_L2 tx (nI k) f (pt Q' 0 2 (nI (p + nd (tx 0) n p + 1))) (pt Rn 0 i (nI (nn (tx 0) n p))) (i + 1) else .inl (0, Q', Rn) := by
  have nd2 : nd (tx 0) n p ≤ 2 := by
    unfold nd
    by_cases g : isD (tx 0) n p
    · rw [if_pos g]
      by_cases g2 : isD (tx 0) n (p + 1)
      · rw [if_pos g2]; decide
      · rw [if_neg g2]; decide
    · rw [if_neg g]; decide
  obtain ⟨Q', e1, e2, e3⟩ := rnum_eq h h0 hn hp h2
  refine ⟨Q', e2, e3, ?_⟩
  have q0 : Q' 0 0 = nI n := by rw [e3 0 (by decide)]; exact h0
  rw [d_X7_isRow_L2, e1]
  refine (if_neg (nI_ge hi (by omega))).trans ((lt_eq rfl).trans ?_)
  by_cases g0 : nd (tx 0) n p = 0
  · rw [if_pos g0]; exact if_pos (show Q' 0 2 = Q 0 2 by rw [e2, h2, g0, Nat.add_zero])
  · rw [if_neg g0]
    refine (if_neg (show ¬ Q' 0 2 = Q 0 2 from fun w => g0 (by rw [e2, h2] at w; have := (nI_eq (by omega) (by omega)).mp w; omega))).trans ?_
    dsimp only
    rw [e2, letter_eq q0 hn (by omega), nI_clamp (by omega)]
    refine (lt_eq rfl).trans ?_
    by_cases g1 : i + 1 = k
    · have es : sep k i = 59 := if_pos g1
      refine (if_pos ((lastk hk hk4 hi).mpr g1)).trans ?_
      rw [es]
      by_cases g2 : p + nd (tx 0) n p < n
      · rw [if_neg (show ¬ n ≤ p + nd (tx 0) n p by omega)]
        by_cases g3 : tx 0 (p + nd (tx 0) n p) = 59
        · rw [if_pos g3, if_pos ⟨g2, g3⟩]
        · rw [if_neg g3, if_neg (fun w => g3 w.2)]
      · rw [if_pos (show n ≤ p + nd (tx 0) n p by omega)]; exact (if_neg (by decide)).trans (if_neg (fun w => g2 w.1)).symm
    · have es : sep k i = 44 := if_neg g1
      refine (if_neg (fun w => g1 ((lastk hk hk4 hi).mp w))).trans ?_
      rw [es]
      by_cases g2 : p + nd (tx 0) n p < n
      · rw [if_neg (show ¬ n ≤ p + nd (tx 0) n p by omega)]
        by_cases g3 : tx 0 (p + nd (tx 0) n p) = 44
        · rw [if_pos g3, if_pos ⟨g2, g3⟩]
        · rw [if_neg g3, if_neg (fun w => g3 w.2)]
      · rw [if_pos (show n ≤ p + nd (tx 0) n p by omega)]; exact (if_neg (by decide)).trans (if_neg (fun w => g2 w.1)).symm
theorem row_pair {x tx : Nat → Nat → Int32} {n k : Nat} (h : LT (x 0) n (tx 0)) (hn : n ≤ 200) (hk : 0 < k) (hk4 : k ≤ 4) : ∀ f i p Rd Q Rn, i ≤ k → k < i + f → p ≤ n → Q 0 0 = nI n → Q 0 2 = nI p → (∀ j, j < i → Rd 1 j = Rn 0 j ∧ rg 99 (Rn 0 j)) → (∃ Rd' Q' Rn', d_X2_itemEnd_L24 x 200 (nI n) (nI k) f Rd p i = .inl (-4, Rd') ∧ d_X7_isRow_L2 tx (nI k) f Q Rn i = .inl (0, Q', Rn') ∧ ∀ j, j ≠ 2 → Q' 0 j = Q 0 j) ∨ (∃ Rd' p' Q' Rn', d_X2_itemEnd_L24 x 200 (nI n) (nI k) f Rd p i = .inr (Rd', p') ∧ d_X7_isRow_L2 tx (nI k) f Q Rn i = .inr (Q', Rn') ∧ (∀ j, j ≠ 2 → Q' 0 j = Q 0 j) ∧ Q' 0 2 = nI p' ∧ p ≤ p' ∧ p' ≤ n ∧ ∀ j, j < k → Rd' 1 j = Rn' 0 j ∧ rg 99 (Rn' 0 j)) := by
  intro f
  induction f with
  | zero => intro i p Rd Q Rn h1 h2; exact absurd h2 (by omega)
  | succ f ih =>
    intro i p Rd Q Rn h1 h2 hp h0 hq2 hj
    by_cases g : k ≤ i
    · refine Or.inr ⟨Rd, p, Q, Rn, ?_, ?_, fun _ _ => rfl, hq2, Nat.le_refl _, hp, fun j hj2 => hj j (by omega)⟩
      · rw [d_X2_itemEnd_L24]; exact if_pos (nI_le g (by omega))
      · rw [d_X7_isRow_L2]; exact if_pos (nI_le g (by omega))
    · have a6 := row6 (f := f) (Rd := Rd) h hn (show p ≤ 900 by omega) hk hk4 (show i < k by omega)
      obtain ⟨Q', q2, qo, a7⟩ := row7 (f := f) (Rn := Rn) h hn (show p ≤ 900 by omega) hk hk4 (show i < k by omega) h0 hq2
      by_cases g0 : nd (tx 0) n p = 0
      · rw [if_pos g0] at a6 a7
        exact Or.inl ⟨Rd, Q', Rn, a6, a7, qo⟩
      · rw [if_neg g0] at a6 a7
        by_cases g1 : p + nd (tx 0) n p < n ∧ tx 0 (p + nd (tx 0) n p) = sep k i
        · rw [if_pos g1] at a6 a7
          have hnn := nn_le (p := p) h
          rcases ih (i + 1) (p + nd (tx 0) n p + 1) (pt Rd 1 i (nI (nn (tx 0) n p))) (pt Q' 0 2 (nI (p + nd (tx 0) n p + 1))) (pt Rn 0 i (nI (nn (tx 0) n p))) (by omega) (by omega) (by omega) (by rw [pt_eq, up_o (by decide), qo 0 (by decide)]; exact h0) (by rw [pt_eq, up_e]) (fun j hj2 => by
            rw [pt_eq, pt_eq]
            by_cases z : j = i
            · subst z; rw [up_e, up_e]; exact ⟨rfl, _, hnn, rfl⟩
            · rw [up_o z, up_o z]; exact hj j (by omega)) with ⟨Rd2, Q2, Rn2, y1, y2, y3⟩ | ⟨Rd2, p2, Q2, Rn2, y1, y2, y3, y4, y5, y6, y7⟩
          · exact Or.inl ⟨Rd2, Q2, Rn2, by rw [a6, y1], by rw [a7, y2], fun j hj2 => by rw [y3 j hj2, pt_eq, up_o hj2, qo j hj2]⟩
          · exact Or.inr ⟨Rd2, p2, Q2, Rn2, by rw [a6, y1], by rw [a7, y2], fun j hj2 => by rw [y3 j hj2, pt_eq, up_o hj2, qo j hj2], y4, by omega, y6, y7⟩
        · rw [if_neg g1] at a6 a7
          exact Or.inl ⟨_, Q', Rn, a6, a7, qo⟩
