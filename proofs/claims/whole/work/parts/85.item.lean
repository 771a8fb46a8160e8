/-! an item of the text, on both sides -/
def SR (T C : Nat) (r M : Nat → Nat → Int32) : Prop := T ≤ 6 ∧ C ≤ 3 ∧ M 0 5 = nI T ∧ M 0 6 = nI C ∧ rg 30 (M 0 7) ∧ RS T C (M 3) (M 0 7) r (M 4) ∧ ZX (M 4) ∧ ZB C r
def FRM (M M' : Nat → Nat → Int32) : Prop := (∀ q, q ≠ 0 → q ≠ 2 → q ≠ 3 → q ≠ 4 → M' q = M q) ∧ ∀ j, j ≠ 2 → j ≠ 5 → j ≠ 6 → j ≠ 7 → M' 0 j = M 0 j
def IP (n p : Nat) (x r Rd M : Nat → Nat → Int32) : Prop :=
  (∃ M', d_X7_isItem M = (0, M') ∧ FRM M M' ∧ ((∃ Rd', d_X2_itemEnd Rd x 200 (nI n) (nI p) = (-4, Rd')) ∨ ∃ p' Rd', d_X2_itemEnd Rd x 200 (nI n) (nI p) = (nI p', Rd') ∧ p' ≤ 200 ∧ d_X2_takes Rd' r (x 0 p) = (0, r))) ∨
  (∃ M' p' Rd' r' T' C', d_X7_isItem M = (1, M') ∧ FRM M M' ∧ d_X2_itemEnd Rd x 200 (nI n) (nI p) = (nI p', Rd') ∧ d_X2_takes Rd' r (x 0 p) = (1, r') ∧ p < p' ∧ p' ≤ n ∧ M' 0 2 = nI p' ∧ SR T' C' r' M')
theorem row_item {n k p : Nat} {x P Rd : Nat → Nat → Int32} (h : LT (x 0) n (P 1)) (hn : n ≤ 200) (hk : 0 < k) (hk4 : k ≤ 4) (hp : p < n) (hl : d_X2_numbersBehind (x 0 p) = nI k) (h0 : P 0 0 = nI n) (h2 : P 0 2 = nI (p + 1)) : (∃ Rd' Q' Rn', d_X2_itemEnd Rd x 200 (nI n) (nI p) = (-4, Rd') ∧ d_X7_isRow (shf P 0) (shf P 1) (shf P 2) (nI k) = (0, Q', Rn') ∧ ∀ j, j ≠ 2 → Q' 0 j = P 0 j) ∨ (∃ Rd' p' Q' Rn', d_X2_itemEnd Rd x 200 (nI n) (nI p) = (nI p', Rd') ∧ d_X7_isRow (shf P 0) (shf P 1) (shf P 2) (nI k) = (1, Q', Rn') ∧ (∀ j, j ≠ 2 → Q' 0 j = P 0 j) ∧ Q' 0 2 = nI p' ∧ p < p' ∧ p' ≤ n ∧ ∀ j, j < k → Rd' 1 j = Rn' 0 j ∧ rg 99 (Rn' 0 j)) := by
  have cp : (nI p).toNatClampNeg = p := nI_clamp (by omega)
  have e6 : d_X2_itemEnd Rd x 200 (nI n) (nI p) = sc (d_X2_itemEnd_L24 x 200 (nI n) (nI k) 5 Rd (p + 1) 0) (fun r => r) fun w => (nI w.2, w.1) := by
    rw [d_X2_itemEnd, cp, hl]; exact (lt_eq rfl).trans (if_neg (nI_ne0 hk (by omega)))
  have e7 : d_X7_isRow (shf P 0) (shf P 1) (shf P 2) (nI k) = sc (d_X7_isRow_L2 (shf P 1) (nI k) 5 (shf P 0) (shf P 2) 0) (fun r => r) fun w => (1, w.1, w.2) := by
    rw [d_X7_isRow]
  rcases row_pair (x := x) (tx := shf P 1) (n := n) (k := k) h hn hk hk4 5 0 (p + 1) Rd (shf P 0) (shf P 2) (by omega) (by omega) (by omega) h0 h2 (fun j hj => absurd hj (by omega)) with ⟨Rd', Q', Rn', y1, y2, y3⟩ | ⟨Rd', p', Q', Rn', y1, y2, y3, y4, y5, y6, y7⟩
  · exact Or.inl ⟨Rd', Q', Rn', by rw [e6, y1]; rfl, by rw [e7, y2]; rfl, y3⟩
  · exact Or.inr ⟨Rd', p', Q', Rn', by rw [e6, y1]; rfl, by rw [e7, y2]; rfl, y3, y4, by omega, y6, y7⟩
theorem FRM_P {M : Nat → Nat → Int32} {z : Int32} : FRM M (pt M 0 2 z) :=
  ⟨fun q a _ _ _ => by rw [pt_k a], fun j a _ _ _ => by rw [pt_eq, up_o a]⟩
theorem FRM_S {M Q Rn : Nat → Nat → Int32} {z : Int32} (h : ∀ j, j ≠ 2 → Q 0 j = pt M 0 2 z 0 j) : FRM M (spl (spl (pt M 0 2 z) 0 1 Q) 2 1 Rn) :=
  ⟨fun q a b _ _ => by rw [spl_out (by omega), spl_out (by omega), pt_k a], fun j a _ _ _ => by rw [spl_out (by omega), spl_in (by omega), Nat.sub_self, h j a, pt_eq, up_o a]⟩
theorem settle_eq {T : Nat} {r : Nat → Nat → Int32} {k s i w : Int32} (hT : T ≤ 6) (hr : ∀ t, t < 6 → (r (3 + t) 0 = 0 ↔ ¬ t < T)) : d_X3_settle r k s i w = if ¬ 3 < k ∧ ¬ 30 < i ∧ ¬ 9 < w ∧ T < 6 then (1, pt (pt (pt (pt (pt (pt (pt (pt r (3 + T) 0 1) (3 + T) 1 0) (3 + T) 2 k) (3 + T) 3 s) (3 + T) 4 i) (3 + T) 5 w) (3 + T) 6 0) (3 + T) 7 0) else (0, r) := by
  rw [d_X3_settle, townsThere_eq hT hr]
  refine (lt_eq rfl).trans ?_
  rw [nI_clamp (show T < 2 ^ 31 by omega)]
  by_cases g1 : 3 < k
  · rw [if_pos g1, if_neg (fun z => z.1 g1)]
  · rw [if_neg g1]
    by_cases g2 : 30 < i
    · rw [if_pos g2, if_neg (fun z => z.2.1 g2)]
    · rw [if_neg g2]
      by_cases g3 : 9 < w
      · rw [if_pos g3, if_neg (fun z => z.2.2.1 g3)]
      · rw [if_neg g3]
        by_cases g4 : T < 6
        · rw [if_pos (nI_lt g4 (by decide)), if_pos ⟨g1, g2, g3, g4⟩]
        · rw [if_neg (nI_nlt (by omega) (by omega)), if_neg (fun z => g4 z.2.2.2)]
theorem item_t {T C n p : Nat} {x r Rd M : Nat → Nat → Int32} (h : LT (x 0) n (M 1)) (hn : n ≤ 200) (hp : p < n) (h0 : M 0 0 = nI n) (h2 : M 0 2 = nI p) (hs : SR T C r M) (hl : M 1 p = 116) : IP n p x r Rd M := by
  obtain ⟨hT, hC, s5, s6, s7, hRS, hZX, hZB⟩ := hs
  have n1 : ¬ (1 : Int32) = 0 := by decide
  have hx : x 0 p = 116 := (h p hp).1.trans hl
  have cp : (nI p).toNatClampNeg = p := nI_clamp (by omega)
  have el : d_X7_letterAt (shf M 0) (shf M 1) (nI p) = 116 := by
    rw [letter_eq (Q := shf M 0) h0 hn (by omega), if_neg (by omega)]; exact hl
  have P1 : pt M 0 2 (nI (p + 1)) 1 = M 1 := pt_k (by decide)
  have hri := row_item (x := x) (P := pt M 0 2 (nI (p + 1))) (Rd := Rd) (k := 4) (by rw [P1]; exact h) hn (by decide) (by decide) hp (by rw [hx]; rfl) (by rw [pt_eq, up_o (by decide)]; exact h0) (by rw [pt_eq, up_e])
  have tk : ∀ Rd' : Nat → Nat → Int32, d_X2_takes Rd' r (x 0 p) = d_X3_settle r (Rd' 1 0) (Rd' 1 1) (Rd' 1 2) (Rd' 1 3) := fun Rd' => by
    rw [d_X2_takes, hx]; exact (if_pos rfl).trans (lt_eq rfl)
  by_cases g6 : T = 6
  · have e7 : d_X7_isItem M = (0, pt M 0 2 (nI (p + 1))) := by
      rw [d_X7_isItem, h2, cp]; exact (lt_eq el.symm).trans ((if_pos rfl).trans (if_pos (by rw [s5, g6]; rfl)))
    refine Or.inl ⟨_, e7, FRM_P, ?_⟩
    rcases hri with ⟨Rd', Q', Rn', y1, -, -⟩ | ⟨Rd', p', Q', Rn', y1, -, -, -, -, y6, -⟩
    · exact Or.inl ⟨Rd', y1⟩
    · refine Or.inr ⟨p', Rd', y1, by omega, ?_⟩
      rw [tk, settle_eq hT (RS_t hRS), if_neg (fun z => absurd z.2.2.2 (by omega))]
  · have g5 : ¬ M 0 5 = 6 := by rw [s5]; exact fun w => g6 ((nI_eq (b := 6) (by omega) (by decide)).mp w)
    rcases hri with ⟨Rd', Q', Rn', y1, y2, y3⟩ | ⟨Rd', p', Q', Rn', y1, y2, y3, y4, y5, y6, y7⟩
    · have e7 : d_X7_isItem M = (0, spl (spl (pt M 0 2 (nI (p + 1))) 0 1 Q') 2 1 Rn') := by
        rw [d_X7_isItem, h2, cp]; exact (lt_eq el.symm).trans ((if_pos rfl).trans ((if_neg g5).trans ((lt_eq y2.symm).trans (if_pos rfl))))
      exact Or.inl ⟨_, e7, FRM_S y3, Or.inl ⟨Rd', y1⟩⟩
    · have q5 : Q' 0 5 = nI T := by rw [y3 5 (by decide), pt_eq, up_o (by decide)]; exact s5
      have cT : (nI T).toNatClampNeg = T := nI_clamp (by omega)
      obtain ⟨z0, z0'⟩ := y7 0 (by decide)
      obtain ⟨z1, z1'⟩ := y7 1 (by decide)
      obtain ⟨z2, z2'⟩ := y7 2 (by decide)
      obtain ⟨z3, z3'⟩ := y7 3 (by decide)
      have fS := FRM_S (M := M) (Rn := Rn') y3
      have S0 : spl (spl (pt M 0 2 (nI (p + 1))) 0 1 Q') 2 1 Rn' 0 = Q' 0 := by rw [spl_out (by omega), spl_in (by omega)]
      have S3 : spl (spl (pt M 0 2 (nI (p + 1))) 0 1 Q') 2 1 Rn' 3 = M 3 := by rw [spl_out (by omega), spl_out (by omega), pt_k (by decide)]
      have S4 : spl (spl (pt M 0 2 (nI (p + 1))) 0 1 Q') 2 1 Rn' 4 = M 4 := by rw [spl_out (by omega), spl_out (by omega), pt_k (by decide)]
      have e7 : ∀ z, (if 3 < Rn' 0 0 then ((0 : Int32), spl (spl (pt M 0 2 (nI (p + 1))) 0 1 Q') 2 1 Rn') else if 30 < Rn' 0 2 then ((0 : Int32), spl (spl (pt M 0 2 (nI (p + 1))) 0 1 Q') 2 1 Rn') else if Rn' 0 3 ≤ 9 then lt (d_X7_layTown (shf (spl (spl (pt M 0 2 (nI (p + 1))) 0 1 Q') 2 1 Rn') 0) (shf (spl (spl (pt M 0 2 (nI (p + 1))) 0 1 Q') 2 1 Rn') 3) (shf (spl (spl (pt M 0 2 (nI (p + 1))) 0 1 Q') 2 1 Rn') 4) (nI T) (Rn' 0 0) (Rn' 0 1) (Rn' 0 2) (Rn' 0 3) 0) fun u172 => ((1 : Int32), pt (spl (spl (spl (spl (pt M 0 2 (nI (p + 1))) 0 1 Q') 2 1 Rn') 3 1 u172.1) 4 1 u172.2) 0 5 (nI (T + 1))) else ((0 : Int32), spl (spl (pt M 0 2 (nI (p + 1))) 0 1 Q') 2 1 Rn')) = z → d_X7_isItem M = z := fun z hz => by
        rw [d_X7_isItem, h2, cp]
        exact (lt_eq el.symm).trans ((if_pos rfl).trans ((if_neg g5).trans ((lt_eq y2.symm).trans ((if_neg n1).trans (by
          dsimp only
          rw [q5, s5, cT]; exact hz)))))
      generalize spl (spl (pt M 0 2 (nI (p + 1))) 0 1 Q') 2 1 Rn' = S at fS S0 S3 S4 e7
      have bad : d_X7_isItem M = (0, S) → ¬ (¬ 3 < Rn' 0 0 ∧ ¬ 30 < Rn' 0 2 ∧ ¬ 9 < Rn' 0 3 ∧ T < 6) → IP n p x r Rd M := fun e w => Or.inl ⟨S, e, fS, Or.inr ⟨p', Rd', y1, by omega, by rw [tk, z0, z1, z2, z3, settle_eq hT (RS_t hRS), if_neg w]⟩⟩
      by_cases g1 : 3 < Rn' 0 0
      · exact bad (e7 _ (if_pos g1)) (fun w => w.1 g1)
      · by_cases g2 : 30 < Rn' 0 2
        · exact bad (e7 _ ((if_neg g1).trans (if_pos g2))) (fun w => w.2.1 g2)
        · by_cases g3 : Rn' 0 3 ≤ 9
          · have tk' := tk Rd'
            rw [z0, z1, z2, z3, settle_eq hT (RS_t hRS), if_pos ⟨g1, g2, Int32.not_lt.mpr g3, by omega⟩] at tk'
            have e7' := e7 _ ((if_neg g1).trans ((if_neg g2).trans ((if_pos g3).trans (lt_eq rfl))))
            rw [d_X7_layTown, cT] at e7'
            dsimp only at e7'
            generalize hM' : pt (spl (spl S 3 1 (pt (shf S 3) 0 T (Rn' 0 0))) 4 1 (pt (pt (pt (pt (shf S 4) 0 (1 + T) (Rn' 0 1)) 0 (7 + T) (Rn' 0 2)) 0 (13 + T) (Rn' 0 3)) 0 (19 + T) 0)) 0 5 (nI (T + 1)) = M' at e7'
            have m0 : ∀ j, j ≠ 5 → M' 0 j = Q' 0 j := fun j hj => by rw [← hM', pt_eq, up_o hj, spl_out (by omega), spl_out (by omega), S0]
            have m05 : M' 0 5 = nI (T + 1) := by rw [← hM', pt_i]
            have m3 : M' 3 = upd (M 3) T (Rn' 0 0) := by
              rw [← hM', pt_k (by decide), spl_out (by omega), spl_in (by omega), Nat.sub_self, pt_eq]
              show upd (S 3) T _ = _
              rw [S3]
            have m4 : M' 4 = upd (upd (upd (upd (M 4) (1 + T) (Rn' 0 1)) (7 + T) (Rn' 0 2)) (13 + T) (Rn' 0 3)) (19 + T) 0 := by
              rw [← hM', pt_k (by decide), spl_in (by omega), Nat.sub_self, pt_eq, pt_eq, pt_eq, pt_eq]
              show upd (upd (upd (upd (S 4) _ _) _ _) _ _) _ _ = _
              rw [S4]
            have m7 : M' 0 7 = M 0 7 := by rw [m0 7 (by decide), y3 7 (by decide), pt_eq, up_o (by decide)]
            have fM : FRM M M' := ⟨fun q a b d e => by rw [← hM', pt_k a, spl_out (by omega), spl_out (by omega)]; exact fS.1 q a b d e, fun j a b d e => by rw [m0 j b, y3 j a, pt_eq, up_o a]⟩
            generalize hr' : pt (pt (pt (pt (pt (pt (pt (pt r (3 + T) 0 1) (3 + T) 1 0) (3 + T) 2 (Rn' 0 0)) (3 + T) 3 (Rn' 0 1)) (3 + T) 4 (Rn' 0 2)) (3 + T) 5 (Rn' 0 3)) (3 + T) 6 0) (3 + T) 7 0 = r' at tk'
            have ro : ∀ q, q ≠ 3 + T → r' q = r q := fun q hq => by rw [← hr', pt_k hq, pt_k hq, pt_k hq, pt_k hq, pt_k hq, pt_k hq, pt_k hq, pt_k hq]
            have rw9 : rg 20 (Rn' 0 3) := by
              obtain ⟨w, hw, ew⟩ := z3'
              rw [ew] at g3 ⊢
              exact ⟨w, by have := (nI_leI (a := w) (b := 9) (by omega) (by decide)).mp g3; omega, rfl⟩
            have hRS' := RS_addT (k := Rn' 0 0) (s := Rn' 0 1) (i := Rn' 0 2) (w := Rn' 0 3) (r' := r') (show T < 6 by omega) hC hRS hZX hZB (rg_mono z1' (by decide)) (rg_mono z2' (by decide)) rw9 ro
              (by rw [← hr', pt_o (by omega), pt_o (by omega), pt_o (by omega), pt_o (by omega), pt_o (by omega), pt_o (by omega), pt_o (by omega), pt_i])
              (by rw [← hr', pt_o (by omega), pt_o (by omega), pt_o (by omega), pt_o (by omega), pt_o (by omega), pt_o (by omega), pt_i])
              (by rw [← hr', pt_o (by omega), pt_o (by omega), pt_o (by omega), pt_o (by omega), pt_o (by omega), pt_i])
              (by rw [← hr', pt_o (by omega), pt_o (by omega), pt_o (by omega), pt_o (by omega), pt_i])
              (by rw [← hr', pt_o (by omega), pt_o (by omega), pt_o (by omega), pt_i])
              (by rw [← hr', pt_o (by omega), pt_o (by omega), pt_i])
              (by rw [← hr', pt_o (by omega), pt_i])
              (by rw [← hr', pt_i])
            refine Or.inr ⟨M', p', Rd', r', T + 1, C, e7', fM, y1, tk', y5, y6, by rw [m0 2 (by decide)]; exact y4, by omega, hC, m05, ?_, ?_, ?_, ?_, ?_⟩
            · rw [m0 6 (by decide), y3 6 (by decide), pt_eq, up_o (by decide)]; exact s6
            · rw [m7]; exact s7
            · rw [m3, m4, m7]; exact hRS'
            · rw [m4]
              refine ⟨?_, fun k h1 h2 => ?_, fun k h1 h2 => ?_⟩
              · rw [up_o (by omega), up_o (by omega), up_o (by omega), up_o (by omega)]; exact hZX.1
              · rw [up_o (by omega), up_o (by omega), up_o (by omega), up_o (by omega)]; exact hZX.2.1 k h1 h2
              · rw [up_o (by omega), up_o (by omega), up_o (by omega), up_o (by omega)]; exact hZX.2.2 k h1 h2
            · intro c hc t ht
              rw [ro _ (by omega)]; exact hZB c hc t ht
          · exact bad (e7 _ ((if_neg g1).trans ((if_neg g2).trans (if_neg g3)))) (fun w => g3 (Int32.not_lt.mp w.2.2.1))
