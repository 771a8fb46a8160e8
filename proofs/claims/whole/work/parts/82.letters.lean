/-! letters, figures, numbers of one or two figures -/
abbrev isD (v : Nat → Int32) (n j : Nat) : Prop := j < n ∧ 48 ≤ v j ∧ v j ≤ 57
def dv (v : Nat → Int32) (j : Nat) : Nat := (v j).toNatClampNeg - 48
def nd (v : Nat → Int32) (n p : Nat) : Nat := if isD v n p then (if isD v n (p + 1) then 2 else 1) else 0
def nn (v : Nat → Int32) (n p : Nat) : Nat := if isD v n p then (if isD v n (p + 1) then 10 * dv v p + dv v (p + 1) else dv v p) else 0
/-- letters alike -/
def LT (x : Nat → Int32) (n : Nat) (v : Nat → Int32) : Prop := ∀ j, j < n → x j = v j ∧ rg 126 (v j)
theorem dv_eq {x v : Nat → Int32} {n j : Nat} (h : LT x n v) (hd : isD v n j) : v j = nI (dv v j + 48) ∧ dv v j ≤ 9 := by
  obtain ⟨h1, h2, h3⟩ := hd
  obtain ⟨k, hk, e⟩ := (h j h1).2
  unfold dv
  rw [e] at h2 h3 ⊢
  have a := (nI_leI (a := 48) (b := k) (by decide) (by omega)).mp h2
  have b := (nI_leI (a := k) (b := 57) (by omega) (by decide)).mp h3
  rw [nI_clamp (by omega), show k - 48 + 48 = k by omega]
  exact ⟨rfl, by omega⟩
theorem nn_le {x v : Nat → Int32} {n p : Nat} (h : LT x n v) : nn v n p ≤ 99 := by
  unfold nn
  by_cases g : isD v n p
  · have a := (dv_eq h g).2
    rw [if_pos g]
    by_cases g2 : isD v n (p + 1)
    · have b := (dv_eq h g2).2
      rw [if_pos g2]; omega
    · rw [if_neg g2]; omega
  · rw [if_neg g]; omega
theorem fig_eq {x : Nat → Nat → Int32} {v : Nat → Int32} {n j : Nat} (h : LT (x 0) n v) (hn : n ≤ 200) (hj : j ≤ 1000) : d_X2_isFigure x 200 (nI n) (nI j) = if isD v n j then 1 else 0 := by
  rw [d_X2_isFigure, nI_clamp (by omega)]
  refine (if_neg (nI_pos (by omega))).trans ?_
  by_cases g : n ≤ j
  · rw [if_pos (nI_le g (by omega)), if_neg (fun z => absurd z.1 (by omega))]
  · rw [if_neg (nI_ge (by omega) (by omega)), if_neg (nI_ge (by omega) (by omega)), (h j (by omega)).1]
    by_cases g2 : v j < 48
    · rw [if_pos g2, if_neg (fun z => Int32.not_le.mpr g2 z.2.1)]
    · rw [if_neg g2]
      by_cases g3 : 57 < v j
      · rw [if_pos g3, if_neg (fun z => Int32.not_le.mpr g3 z.2.2)]
      · rw [if_neg g3, if_pos ⟨by omega, Int32.not_lt.mp g2, Int32.not_lt.mp g3⟩]
theorem figs_eq {x : Nat → Nat → Int32} {v : Nat → Int32} {n p : Nat} (h : LT (x 0) n v) (hn : n ≤ 200) (hp : p ≤ 900) : d_X2_figuresAt x 200 (nI n) (nI p) = nI (nd v n p) := by
  have n1 : ¬ (1 : Int32) = 0 := by decide
  rw [d_X2_figuresAt, fig_eq h hn (by omega), nI_1, fig_eq h hn (by omega)]
  unfold nd
  refine (lt_eq rfl).trans ?_
  by_cases g : isD v n p
  · rw [if_pos g, if_pos g, if_neg n1]
    refine (lt_eq rfl).trans ?_
    by_cases g2 : isD v n (p + 1)
    · rw [if_pos g2, if_pos g2, if_neg n1]; rfl
    · rw [if_neg g2, if_neg g2, if_pos rfl]; rfl
  · rw [if_neg g, if_neg g, if_pos rfl]; rfl
theorem num_step {a d : Nat} : (10 : Int32) * nI a + (nI (d + 48) - 48) = nI (10 * a + d) := by
  rw [show (10 : Int32) = nI 10 from rfl, show (48 : Int32) = nI 48 from rfl, nI_mul, nI_sub (by omega), nI_add]
  congr 1
theorem numat_eq {x : Nat → Nat → Int32} {v : Nat → Int32} {n p : Nat} (h : LT (x 0) n v) (hn : n ≤ 200) (hp : p ≤ 900) : d_X2_numberAt x 200 (nI n) (nI p) (nI (nd v n p)) = nI (nn v n p) := by
  have n1 : ¬ (1 : Int32) = 0 := by decide
  have cp : (nI p).toNatClampNeg = p := nI_clamp (by omega)
  have cp1 : (nI (p + 1)).toNatClampNeg = p + 1 := nI_clamp (by omega)
  have nd2 : nd v n p ≤ 2 := by
    unfold nd
    by_cases g : isD v n p
    · rw [if_pos g]
      by_cases g2 : isD v n (p + 1)
      · rw [if_pos g2]; decide
      · rw [if_neg g2]; decide
    · rw [if_neg g]; decide
  have cn : (nI (nd v n p)).toNatClampNeg = nd v n p := nI_clamp (by omega)
  have f0 := fig_eq (j := p) h hn (by omega)
  have f1 := fig_eq (j := p + 1) h hn (by omega)
  have st : ∀ m a i, (nI i).toNatClampNeg = i → d_X2_numberAt_L6 x 200 (nI n) (nI p) (nI (nd v n p)) (m + 1) a (nI i) = if nI (p + nd v n p) ≤ nI i then a else if d_X2_isFigure x 200 (nI n) (nI i) = 0 then a else d_X2_numberAt_L6 x 200 (nI n) (nI p) (nI (nd v n p)) m ((10 : Int32) * a + (x 0 i - 48)) (nI (i + 1)) := fun m a i ci => by
    rw [d_X2_numberAt_L6, cp, cn, ci]
    by_cases w : nI (p + nd v n p) ≤ nI i
    · rw [if_pos w, if_pos w]
    · rw [if_neg w, if_neg w]; exact lt_eq rfl
  rw [d_X2_numberAt]
  refine (lt_eq rfl).trans ?_
  by_cases g : isD v n p
  · rw [if_pos g] at f0
    obtain ⟨a1, a2⟩ := dv_eq h g
    have x1 : x 0 p = nI (dv v p + 48) := by rw [(h p g.1).1]; exact a1
    by_cases g2 : isD v n (p + 1)
    · rw [if_pos g2] at f1
      obtain ⟨b1, b2⟩ := dv_eq h g2
      have x2 : x 0 (p + 1) = nI (dv v (p + 1) + 48) := by rw [(h (p + 1) g2.1).1]; exact b1
      have e2 : nd v n p = 2 := by unfold nd; rw [if_pos g, if_pos g2]
      have e3 : nn v n p = 10 * dv v p + dv v (p + 1) := by unfold nn; rw [if_pos g, if_pos g2]
      rw [st 2 0 p cp, f0, if_neg (by rw [e2]; exact nI_ge (by omega) (by omega)), if_neg n1, x1, ← nI_0, num_step, st 1 _ (p + 1) cp1, f1, if_neg (by rw [e2]; exact nI_ge (by omega) (by omega)), if_neg n1, x2, num_step, st 0 _ (p + 1 + 1) (nI_clamp (by omega)), if_pos (by rw [e2]; exact nI_le (by omega) (by omega)), e3]
      congr 1
      omega
    · have e2 : nd v n p = 1 := by unfold nd; rw [if_pos g, if_neg g2]
      have e3 : nn v n p = dv v p := by unfold nn; rw [if_pos g, if_neg g2]
      rw [st 2 0 p cp, f0, if_neg (by rw [e2]; exact nI_ge (by omega) (by omega)), if_neg n1, x1, ← nI_0, num_step, st 1 _ (p + 1) cp1, if_pos (by rw [e2]; exact nI_le (by omega) (by omega)), e3]
      congr 1
      omega
  · rw [if_neg g] at f0
    have e2 : nd v n p = 0 := by unfold nd; rw [if_neg g]
    have e3 : nn v n p = 0 := by unfold nn; rw [if_neg g]
    rw [st 2 0 p cp, if_pos (by rw [e2]; exact nI_le (by omega) (by omega)), e3, nI_0]
theorem letter_eq {Q tx : Nat → Nat → Int32} {n j : Nat} (h0 : Q 0 0 = nI n) (hn : n ≤ 200) (hj : j ≤ 1000) : d_X7_letterAt Q tx (nI j) = if n ≤ j then -1 else tx 0 j := by
  rw [d_X7_letterAt, h0, nI_clamp (by omega)]
  by_cases g : n ≤ j
  · rw [if_pos (nI_le g (by omega)), if_pos g]
  · rw [if_neg (nI_ge (by omega) (by omega)), if_neg g]
theorem inD_eq {Q tx : Nat → Nat → Int32} {n j : Nat} (h0 : Q 0 0 = nI n) (hn : n ≤ 200) (hj : j ≤ 1000) : d_X7_in (d_X7_letterAt Q tx (nI j)) 48 57 = if isD (tx 0) n j then 1 else 0 := by
  rw [letter_eq h0 hn hj, in_eq]
  by_cases g : n ≤ j
  · rw [if_pos g, if_pos (Or.inl (by decide)), if_neg (fun z => absurd z.1 (by omega))]
  · rw [if_neg g]
    by_cases g2 : tx 0 j < 48
    · rw [if_pos (Or.inl g2), if_neg (fun z => Int32.not_le.mpr g2 z.2.1)]
    · by_cases g3 : 57 < tx 0 j
      · rw [if_pos (Or.inr g3), if_neg (fun z => Int32.not_le.mpr g3 z.2.2)]
      · rw [if_neg (fun z => z.elim g2 g3), if_pos ⟨by omega, Int32.not_lt.mp g2, Int32.not_lt.mp g3⟩]
theorem rnum_eq {Q tx : Nat → Nat → Int32} {x : Nat → Int32} {n p : Nat} (h : LT x n (tx 0)) (h0 : Q 0 0 = nI n) (hn : n ≤ 200) (hp : p ≤ 900) (h2 : Q 0 2 = nI p) : ∃ Q', d_X7_isRow_L15 tx Q 3 Q 0 = (Q', nI (nn (tx 0) n p)) ∧ Q' 0 2 = nI (p + nd (tx 0) n p) ∧ ∀ j, j ≠ 2 → Q' 0 j = Q 0 j := by
  have n1 : ¬ (1 : Int32) = 0 := by decide
  have cp : (nI p).toNatClampNeg = p := nI_clamp (by omega)
  have st : ∀ m (P : Nat → Nat → Int32) a i, a ≤ 99 → P 0 2 = nI i → P 0 0 = nI n → i ≤ 1000 → d_X7_isRow_L15 tx Q (m + 1) P (nI a) = if nI (p + 2) ≤ nI i then (P, nI a) else if isD (tx 0) n i then d_X7_isRow_L15 tx Q m (pt P 0 2 (nI (i + 1))) (nI (10 * a + dv (tx 0) i)) else (P, nI a) := fun m P a i ha hi h00 hi2 => by
    rw [d_X7_isRow_L15, h2, cp, hi, nI_clamp (show i < 2 ^ 31 by omega), nI_clamp (show a < 2 ^ 31 by omega)]
    by_cases w : nI (p + 2) ≤ nI i
    · rw [if_pos w, if_pos w]
    · rw [if_neg w, if_neg w]
      refine (lt_eq rfl).trans ?_
      rw [inD_eq h00 hn hi2]
      refine (lt_eq rfl).trans ?_
      by_cases g : isD (tx 0) n i
      · rw [if_pos g, if_neg n1, if_pos g]
        refine (lt_eq rfl).trans ?_
        obtain ⟨a1, a2⟩ := dv_eq h g
        have g1 := g.1
        have el : d_X7_letterAt P tx (nI i) = nI (dv (tx 0) i + 48) := by rw [letter_eq h00 hn hi2, if_neg (by omega)]; exact a1
        rw [el, nI_clamp (by omega), show 10 * a + (dv (tx 0) i + 48) - 48 = 10 * a + dv (tx 0) i by omega]
      · rw [if_neg g, if_pos rfl, if_neg g]
  have s0 := st 2 Q 0 p (by omega) h2 h0 (by omega)
  rw [if_neg (nI_ge (by omega) (by omega)), nI_0] at s0
  by_cases g : isD (tx 0) n p
  · rw [if_pos g] at s0
    obtain ⟨a1, a2⟩ := dv_eq h g
    have s1 := st 1 (pt Q 0 2 (nI (p + 1))) (10 * 0 + dv (tx 0) p) (p + 1) (by omega) (by rw [pt_eq, up_e]) (by rw [pt_eq, up_o (by decide)]; exact h0) (by omega)
    rw [if_neg (nI_ge (by omega) (by omega))] at s1
    by_cases g2 : isD (tx 0) n (p + 1)
    · rw [if_pos g2] at s1
      obtain ⟨b1, b2⟩ := dv_eq h g2
      have s2 := st 0 (pt (pt Q 0 2 (nI (p + 1))) 0 2 (nI (p + 1 + 1))) (10 * (10 * 0 + dv (tx 0) p) + dv (tx 0) (p + 1)) (p + 1 + 1) (by omega) (by rw [pt_eq, up_e]) (by rw [pt_eq, up_o (by decide), pt_eq, up_o (by decide)]; exact h0) (by omega)
      rw [if_pos (nI_le (by omega) (by omega))] at s2
      have ev : 10 * (10 * 0 + dv (tx 0) p) + dv (tx 0) (p + 1) = nn (tx 0) n p := by
        unfold nn
        rw [if_pos g, if_pos g2]; omega
      have s3 := s0.trans (s1.trans s2)
      rw [ev] at s3
      refine ⟨_, s3, ?_, fun j hj => ?_⟩
      · unfold nd
        rw [if_pos g, if_pos g2, pt_eq, up_e]
      · rw [pt_eq, up_o hj, pt_eq, up_o hj]
    · rw [if_neg g2] at s1
      have ev : 10 * 0 + dv (tx 0) p = nn (tx 0) n p := by
        unfold nn
        rw [if_pos g, if_neg g2]; omega
      have s3 := s0.trans s1
      rw [ev] at s3
      refine ⟨_, s3, ?_, fun j hj => ?_⟩
      · unfold nd
        rw [if_pos g, if_neg g2, pt_eq, up_e]
      · rw [pt_eq, up_o hj]
  · rw [if_neg g] at s0
    have ev : nn (tx 0) n p = 0 := by unfold nn; rw [if_neg g]
    refine ⟨Q, by rw [ev, nI_0]; exact s0, ?_, fun _ _ => rfl⟩
    unfold nd; rw [if_neg g]; exact h2
