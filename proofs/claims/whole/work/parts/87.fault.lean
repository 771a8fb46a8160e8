/-! the whole text read, on both sides; fault -/
def FR4 (M M' : Nat → Nat → Int32) : Prop := (∀ q, q ≠ 0 → q ≠ 2 → q ≠ 3 → q ≠ 4 → M' q = M q) ∧ ∀ j, j ≠ 2 → j ≠ 4 → j ≠ 5 → j ≠ 6 → j ≠ 7 → M' 0 j = M 0 j
theorem imin_200 {n : Nat} (hn : n ≤ 200) : imin (nI n) (nI 200) = nI n := by
  unfold imin
  exact if_neg (nI_nlt hn (by decide))
theorem read_pair {n : Nat} {x : Nat → Nat → Int32} (hn : n ≤ 200) : ∀ f p items T C r Rd M, items ≤ p → p ≤ n → n < p + f → M 0 0 = nI n → M 0 2 = nI p → LT (x 0) n (M 1) → SR T C r M → (∃ q Rd' r' M', d_X2_read_L18 x 200 (nI n) f Rd r (nI p) items = .inl (nI q, Rd', r') ∧ d_X7_isRead_L42 f M = .inl (0, M') ∧ M' 0 4 = nI q ∧ q < 200 ∧ FR4 M M' ∧ ∀ c, c < 3 → r' (9 + 2 * c) 4 = 0) ∨ (∃ Rd' r' M' T' C', d_X2_read_L18 x 200 (nI n) f Rd r (nI p) items = .inr (Rd', r') ∧ d_X7_isRead_L42 f M = .inr M' ∧ FR4 M M' ∧ SR T' C' r' M') := by
  intro f
  induction f with
  | zero => intro p items T C r Rd M h1 h2 h3; exact absurd h3 (by omega)
  | succ f ih =>
    intro p items T C r Rd M h1 h2 h3 m0 m2 hl hs
    have n1 : ¬ (1 : Int32) = 0 := by decide
    have cp : (nI p).toNatClampNeg = p := nI_clamp (by omega)
    by_cases g : n ≤ p
    · refine Or.inr ⟨Rd, r, M, T, C, ?_, ?_, ⟨fun _ _ _ _ _ => rfl, fun _ _ _ _ _ _ => rfl⟩, hs⟩
      · rw [d_X2_read_L18, imin_200 hn]
        by_cases w : nI n ≤ nI items
        · exact if_pos w
        · exact (if_neg w).trans (if_pos (nI_le g (by omega)))
      · rw [d_X7_isRead_L42, m0, m2]; exact if_pos (nI_le g (by omega))
    · have hs' : SR T C r (pt M 0 4 (nI p)) := by
        obtain ⟨a1, a2, a3, a4, a5, a6, a7, a8⟩ := hs
        have e3 : pt M 0 4 (nI p) 3 = M 3 := pt_k (by decide)
        have e4 : pt M 0 4 (nI p) 4 = M 4 := pt_k (by decide)
        have e0 : ∀ j, j ≠ 4 → pt M 0 4 (nI p) 0 j = M 0 j := fun j hj => by rw [pt_eq, up_o hj]
        exact ⟨a1, a2, by rw [e0 5 (by decide)]; exact a3, by rw [e0 6 (by decide)]; exact a4, by rw [e0 7 (by decide)]; exact a5, by rw [e3, e4, e0 7 (by decide)]; exact a6, by rw [e4]; exact a7, a8⟩
      have hsp := RS_sp hs.2.2.2.2.2.1
      have e1 : pt M 0 4 (nI p) 1 = M 1 := pt_k (by decide)
      have hi := item_pair (x := x) (Rd := Rd) (M := pt M 0 4 (nI p)) (by rw [e1]; exact hl) hn (show p < n by omega) (by rw [pt_eq, up_o (by decide)]; exact m0) (by rw [pt_eq, up_o (by decide)]; exact m2) hs'
      have i1 : ¬ imin (nI n) (nI 200) ≤ nI items := by rw [imin_200 hn]; exact nI_ge (by omega) (by omega)
      have i2 : ¬ imin (nI n) (nI 200) ≤ nI p := by rw [imin_200 hn]; exact nI_ge (by omega) (by omega)
      have e7 : d_X7_isRead_L42 (f + 1) M = if (d_X7_isItem (pt M 0 4 (nI p))).1 = 0 then .inl ((0 : Int32), (d_X7_isItem (pt M 0 4 (nI p))).2) else d_X7_isRead_L42 f (d_X7_isItem (pt M 0 4 (nI p))).2 := by
        rw [d_X7_isRead_L42, m0, m2]; exact (if_neg (nI_ge (by omega) (by omega))).trans (lt_eq rfl)
      have frm4 : ∀ M', FRM (pt M 0 4 (nI p)) M' → FR4 M M' ∧ M' 0 4 = nI p := fun M' w => ⟨⟨fun q a b c d => by rw [w.1 q a b c d, pt_k a], fun j a b c d e => by rw [w.2 j a c d e, pt_eq, up_o b]⟩, by rw [w.2 4 (by decide) (by decide) (by decide) (by decide), pt_i]⟩
      have e6 : d_X2_read_L18 x 200 (nI n) (f + 1) Rd r (nI p) items = lt (d_X2_itemEnd Rd x 200 (nI n) (nI p)) fun u32 => if u32.1 = -4 then .inl (nI p, u32.2, r) else lt (d_X2_takes u32.2 r (x 0 p)) fun u42 => if u42.1 = 0 then .inl (nI p, u32.2, u42.2) else d_X2_read_L18 x 200 (nI n) f u32.2 u42.2 u32.1 (items + 1) := by
        rw [d_X2_read_L18]
        refine (if_neg i1).trans ((if_neg i2).trans ?_)
        rw [imin_200 hn, cp]
      rcases hi with ⟨M', a1, a2, a3⟩ | ⟨M', p', Rd', r', T', C', a1, a2, a3, a4, a5, a6, a7, a8⟩
      · rw [a1] at e7
        have e7' := e7.trans (if_pos rfl)
        obtain ⟨b1, b2⟩ := frm4 M' a2
        rcases a3 with ⟨Rd', y⟩ | ⟨p', Rd', y, y2, y3⟩
        · exact Or.inl ⟨p, Rd', r, M', e6.trans ((lt_eq y.symm).trans (if_pos rfl)), e7', b2, by omega, b1, hsp⟩
        · refine Or.inl ⟨p, Rd', r, M', e6.trans ((lt_eq y.symm).trans ((if_neg (nI_ne4 (s := p') (by omega))).trans ((lt_eq y3.symm).trans (if_pos rfl)))), e7', b2, by omega, b1, hsp⟩
      · rw [a1] at e7
        have e7' := e7.trans (if_neg n1)
        obtain ⟨b1, -⟩ := frm4 M' a2
        have e6' := e6.trans ((lt_eq a3.symm).trans ((if_neg (nI_ne4 (s := p') (by omega))).trans ((lt_eq a4.symm).trans (if_neg n1))))
        have m1' : M' 1 = M 1 := b1.1 1 (by decide) (by decide) (by decide) (by decide)
        have m0' : M' 0 0 = nI n := by rw [b1.2 0 (by decide) (by decide) (by decide) (by decide) (by decide)]; exact m0
        have fr : ∀ M2, FR4 M' M2 → FR4 M M2 := fun M2 w => ⟨fun q a b c d => by rw [w.1 q a b c d, b1.1 q a b c d], fun j a b c d e => by rw [w.2 j a b c d e, b1.2 j a b c d e]⟩
        dsimp only at e6' e7'
        rw [e6', e7']
        rcases ih p' (items + 1) T' C' r' Rd' M' (by omega) a6 (by omega) m0' a7 (by rw [m1']; exact hl) a8 with ⟨q, Rd2, r2, M2, y1, y2, y3, y4, y5, y6⟩ | ⟨Rd2, r2, M2, T2, C2, y1, y2, y3, y4⟩
        · exact Or.inl ⟨q, Rd2, r2, M2, y1, y2, y3, y4, fr M2 y5, y6⟩
        · exact Or.inr ⟨Rd2, r2, M2, T2, C2, y1, y2, fr M2 y3, y4⟩
theorem zero_loop : ∀ n k (M : Nat → Nat → Int32), k ≤ 64 → 64 < k + n → (∀ q, q ≠ 4 → d_X7_isRead_L23 n M k q = M q) ∧ (∀ j, j < k → d_X7_isRead_L23 n M k 4 j = M 4 j) ∧ ∀ j, k ≤ j → j < 64 → d_X7_isRead_L23 n M k 4 j = 0 := by
  intro n
  induction n with
  | zero => intro k M h1 h2; exact absurd h2 (by omega)
  | succ n ih =>
    intro k M h1 h2
    by_cases g : 64 ≤ k
    · have e : d_X7_isRead_L23 (n + 1) M k = M := by rw [d_X7_isRead_L23]; exact if_pos (nI_le (a := 64) g (by omega))
      rw [e]; exact ⟨fun _ _ => rfl, fun _ _ => rfl, fun j h3 h4 => absurd h4 (by omega)⟩
    · have e : d_X7_isRead_L23 (n + 1) M k = d_X7_isRead_L23 n (pt M 4 k 0) (k + 1) := by rw [d_X7_isRead_L23]; exact if_neg (nI_ge (b := 64) (by omega) (by decide))
      obtain ⟨g1, g2, g3⟩ := ih (k + 1) (pt M 4 k 0) (by omega) (by omega)
      rw [e]
      refine ⟨fun q hq => by rw [g1 q hq, pt_k hq], fun j hj => by rw [g2 j (by omega), pt_o (by omega)], fun j h3 h4 => ?_⟩
      by_cases z : j = k
      · subst z; rw [g2 j (by omega), pt_i]
      · exact g3 j (by omega) h4
theorem clear_t : ∀ n i (r : Nat → Nat → Int32), i ≤ 6 → 6 < i + n → (∀ q j, j ≠ 0 ∨ q < 3 + i ∨ 9 ≤ q → d_X3_clear_L2 n r i q j = r q j) ∧ ∀ t, i ≤ t → t < 6 → d_X3_clear_L2 n r i (3 + t) 0 = 0 := by
  intro n
  induction n with
  | zero => intro i r h1 h2; exact absurd h2 (by omega)
  | succ n ih =>
    intro i r h1 h2
    by_cases g : 6 ≤ i
    · have e : d_X3_clear_L2 (n + 1) r i = r := by rw [d_X3_clear_L2]; exact if_pos (nI_le g (by omega))
      rw [e]; exact ⟨fun _ _ _ => rfl, fun t h3 h4 => absurd h4 (by omega)⟩
    · have e : d_X3_clear_L2 (n + 1) r i = d_X3_clear_L2 n (pt r (3 + i) 0 0) (i + 1) := by rw [d_X3_clear_L2]; exact if_neg (nI_ge (by omega) (by omega))
      obtain ⟨g1, g2⟩ := ih (i + 1) (pt r (3 + i) 0 0) (by omega) (by omega)
      rw [e]
      refine ⟨fun q j hj => by rw [g1 q j (by omega), pt_o (by omega)], fun t h3 h4 => ?_⟩
      by_cases z : t = i
      · subst z; rw [g1 (3 + t) 0 (by omega), pt_i]
      · exact g2 t (by omega) h4
theorem clear_c : ∀ n i (r : Nat → Nat → Int32), i ≤ 3 → 3 < i + n → (∀ q j, j ≠ 0 ∨ q < 9 + 2 * i → d_X3_clear_L29 n r i q j = r q j) ∧ ∀ c, i ≤ c → c < 3 → d_X3_clear_L29 n r i (9 + 2 * c) 0 = 0 := by
  intro n
  induction n with
  | zero => intro i r h1 h2; exact absurd h2 (by omega)
  | succ n ih =>
    intro i r h1 h2
    by_cases g : 3 ≤ i
    · have e : d_X3_clear_L29 (n + 1) r i = r := by rw [d_X3_clear_L29]; exact if_pos (nI_le g (by omega))
      rw [e]; exact ⟨fun _ _ _ => rfl, fun t h3 h4 => absurd h4 (by omega)⟩
    · have e : d_X3_clear_L29 (n + 1) r i = d_X3_clear_L29 n (pt r (9 + 2 * i) 0 0) (i + 1) := by rw [d_X3_clear_L29]; exact if_neg (nI_ge (by omega) (by omega))
      obtain ⟨g1, g2⟩ := ih (i + 1) (pt r (9 + 2 * i) 0 0) (by omega) (by omega)
      rw [e]
      refine ⟨fun q j hj => by rw [g1 q j (by omega), pt_o (by omega)], fun t h3 h4 => ?_⟩
      by_cases z : t = i
      · subst z; rw [g1 (9 + 2 * t) 0 (by omega), pt_i]
      · exact g2 t (by omega) h4
theorem clear_RS {r : Nat → Nat → Int32} {kd a : Nat → Int32} (hs : ∀ c, c < 3 → r (9 + 2 * c) 4 = 0) (ha : ∀ j, j < 64 → a j = 0) : RS 0 0 kd 10 (d_X3_clear r) a := by
  have e : d_X3_clear r = pt (pt (d_X3_clear_L29 4 (d_X3_clear_L2 7 r 0) 0) 0 2 10) 0 3 0 := by
    rw [d_X3_clear]; exact (lt_eq rfl).trans (lt_eq rfl)
  obtain ⟨g1, g2⟩ := clear_t 7 0 r (by decide) (by decide)
  generalize d_X3_clear_L2 7 r 0 = r1 at g1 g2 e
  obtain ⟨g3, g4⟩ := clear_c 4 0 r1 (by decide) (by decide)
  generalize d_X3_clear_L29 4 r1 0 = r2 at g3 g4 e
  rw [e]
  refine ⟨⟨fun c => r2 (9 + 2 * c) 1, ⟨fun t ht => ?_, fun t ht => absurd ht (by omega), fun c hc => ⟨?_, ?_, rfl⟩, fun c hc hK => absurd hK (by omega), fun c hc => ?_, ?_, ?_⟩, fun c hc => absurd hc (by omega)⟩, fun c hc => absurd hc (by omega), ⟨fun t ht => absurd ht (by omega), fun c hc => absurd hc (by omega)⟩, fun t ht => ?_⟩
  · rw [pt_k (by omega), pt_k (by omega), g3 _ _ (by omega), g2 t (Nat.zero_le _) ht]
    exact ⟨fun _ => by omega, fun _ => rfl⟩
  · rw [pt_k (by omega), pt_k (by omega), g4 c (Nat.zero_le _) hc]; rfl
  · rw [pt_k (by omega), pt_k (by omega)]
  · rw [pt_k (by omega), pt_k (by omega), g3 _ _ (by omega), g1 _ _ (by omega)]; exact hs c hc
  · rw [pt_o (by omega), pt_i]
  · rw [pt_i, ha 0 (by decide)]
  · rw [ha _ (by omega), ha _ (by omega)]; exact ⟨rg_0, rg_0⟩
theorem read_all {R M : Nat → Nat → Int32} (h : Inv R M) : ∃ Rd' r' M', (∀ c, c < 3 → r' (9 + 2 * c) 4 = 0) ∧ FR4 M M' ∧ ((∃ q, q < 200 ∧ d_X2_read (shf R 2) (shf R 1) (shf R 40) 200 (R 0 1) = (nI q, Rd', r') ∧ d_X7_isRead M = (0, M') ∧ M' 0 4 = nI q) ∨ (∃ T' C', d_X2_read (shf R 2) (shf R 1) (shf R 40) 200 (R 0 1) = (-4, Rd', r') ∧ d_X7_isRead M = (1, M') ∧ SR T' C' r' M')) := by
  obtain ⟨T, C, hT, hC, t1, c1, k1, ⟨n, hn, hx, hy, hl⟩, -, -, htr, -⟩ := h
  have e6 : d_X2_read (shf R 2) (shf R 1) (shf R 40) 200 (R 0 1) = sc (d_X2_read_L18 (shf R 1) 200 (nI n) 201 (shf R 2) (d_X3_clear (shf R 40)) 0 0) (fun r => r) fun w => (-4, w.1, w.2) := by
    rw [d_X2_read, hx]; exact lt_eq rfl
  have e7 : d_X7_isRead M = sc (d_X7_isRead_L42 201 (d_X7_isRead_L23 65 (pt (pt (pt (pt M 0 2 0) 0 5 0) 0 6 0) 0 7 10) 0)) (fun r => r) fun w => (1, w) := by
    rw [d_X7_isRead]; exact lt_eq rfl
  obtain ⟨z1, -, z2⟩ := zero_loop 65 0 (pt (pt (pt (pt M 0 2 0) 0 5 0) 0 6 0) 0 7 10) (by decide) (by decide)
  generalize d_X7_isRead_L23 65 (pt (pt (pt (pt M 0 2 0) 0 5 0) 0 6 0) 0 7 10) 0 = Z at z1 z2 e7
  have a0 : Z 0 = pt (pt (pt (pt M 0 2 0) 0 5 0) 0 6 0) 0 7 10 0 := z1 0 (by decide)
  have ao : ∀ q, q ≠ 0 → q ≠ 4 → Z q = M q := fun q a b => by rw [z1 q b, pt_k a, pt_k a, pt_k a, pt_k a]
  have a0o : ∀ j, j ≠ 2 → j ≠ 5 → j ≠ 6 → j ≠ 7 → Z 0 j = M 0 j := fun j a b c d => by rw [a0, pt_eq, up_o d, pt_eq, up_o c, pt_eq, up_o b, pt_eq, up_o a]
  have a2 : Z 0 2 = 0 := by rw [a0, pt_o (by decide), pt_o (by decide), pt_o (by decide), pt_i]
  have a5 : Z 0 5 = 0 := by rw [a0, pt_o (by decide), pt_o (by decide), pt_i]
  have a6 : Z 0 6 = 0 := by rw [a0, pt_o (by decide), pt_i]
  have a7 : Z 0 7 = 10 := by rw [a0, pt_i]
  have hSR : SR 0 0 (d_X3_clear (shf R 40)) Z := by
    refine ⟨by decide, by decide, by rw [a5]; rfl, by rw [a6]; rfl, by rw [a7]; exact ⟨10, by decide, rfl⟩, ?_, ⟨z2 0 (by decide) (by decide), fun k h1 h2 => z2 k (Nat.zero_le _) (by omega), fun k h1 h2 => z2 k (Nat.zero_le _) h2⟩, fun c hc => absurd hc (by omega)⟩
    rw [a7]
    exact clear_RS (fun c hc => htr c hc) (fun j hj => z2 j (Nat.zero_le _) hj)
  have fr : ∀ M', FR4 Z M' → FR4 M M' := fun M' w => ⟨fun q a b c d => by rw [w.1 q a b c d, ao q a d], fun j a b c d e => by rw [w.2 j a b c d e, a0o j a c d e]⟩
  have hp := read_pair (x := shf R 1) hn 201 0 0 0 0 (d_X3_clear (shf R 40)) (shf R 2) Z (by decide) (by omega) (by omega) (by rw [a0o 0 (by decide) (by decide) (by decide) (by decide)]; exact hy) (by rw [a2]; rfl) (by rw [ao 1 (by decide) (by decide)]; exact hl) hSR
  rw [nI_0] at hp
  rcases hp with ⟨q, Rd', r', M', y1, y2, y3, y4, y5, y6⟩ | ⟨Rd', r', M', T', C', y1, y2, y3, y4⟩
  · exact ⟨Rd', r', M', y6, fr M' y5, Or.inl ⟨q, y4, by rw [e6, y1]; rfl, by rw [e7, y2]; rfl, y3⟩⟩
  · exact ⟨Rd', r', M', RS_sp y4.2.2.2.2.2.1, fr M' y3, Or.inr ⟨T', C', by rw [e6, y1]; rfl, by rw [e7, y2]; rfl, y4⟩⟩
theorem Inv_read {R M Rd' r' M' : Nat → Nat → Int32} (h : Inv R M) (hs : ∀ c, c < 3 → r' (9 + 2 * c) 4 = 0) (hf : FR4 M M') : Inv (spl (spl R 2 2 Rd') 40 15 r') M' := by
  refine Inv_tr h (fun q a b c d => by rw [spl_out (by omega), spl_out (by omega)]) (fun q a b c d _ _ _ => hf.1 q a b c d) (fun j a b c d e _ => hf.2 j a b c d e) (fun c hc => ?_)
  rw [spl_in (by omega), show 40 + (9 + 2 * c) - 40 = 9 + 2 * c by omega]; exact hs c hc
theorem s_fault {R M : Nat → Nat → Int32} (h : Inv R M) : (d_X6_fault R).1 = (d_X7_fault M).1 ∧ Inv (d_X6_fault R).2 (d_X7_fault M).2 := by
  have n1 : ¬ (1 : Int32) = 0 := by decide
  obtain ⟨Rd', r', M', hs, hf, hh⟩ := read_all h
  have hI := Inv_read (Rd' := Rd') h hs hf
  rcases hh with ⟨q, hq, y1, y2, y3⟩ | ⟨T', C', y1, y2, y3⟩
  · have e6 : d_X6_fault R = (nI q, spl (spl R 2 2 Rd') 40 15 r') := by rw [d_X6_fault]; exact lt_eq y1.symm
    have e7 : d_X7_fault M = (M' 0 4, M') := by rw [d_X7_fault]; exact (lt_eq y2.symm).trans (if_pos rfl)
    rw [e6, e7]; exact ⟨y3.symm, hI⟩
  · have e6 : d_X6_fault R = (-4, spl (spl R 2 2 Rd') 40 15 r') := by rw [d_X6_fault]; exact lt_eq y1.symm
    have e7 : d_X7_fault M = (-4, M') := by rw [d_X7_fault]; exact (lt_eq y2.symm).trans (if_neg n1)
    rw [e6, e7]; exact ⟨rfl, hI⟩
