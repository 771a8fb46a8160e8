/-! springs: draws -/
theorem lN_big {n : Nat} (h : n < 2 ^ 63) : (lN n).toInt = (n : Int) := lg_ofNat_toInt h
theorem lN_div {a b : Nat} (ha : a < 2 ^ 63) (hb0 : 0 < b) (hb : b < 2 ^ 63) : lN a / lN b = lN (a / b) := by
  apply Int64.toInt_inj.mp
  have hq : a / b < 2 ^ 63 := Nat.lt_of_le_of_lt (Nat.div_le_self a b) ha
  rw [Int64.toInt_div, lN_big ha, lN_big hb, lN_big hq]
  have e : (a : Int).tdiv (b : Int) = ((a / b : Nat) : Int) := by rw [Int.ofNat_tdiv]
  rw [e]
  clear e
  generalize a / b = q at hq ⊢
  exact Int.bmod_eq_of_le (by omega) (by omega)
theorem lN_rem {a b : Nat} (ha : a < 2 ^ 63) (hb0 : 0 < b) (hb : b < 2 ^ 63) : lN a - lN a / lN b * lN b = lN (a - a / b * b) := by
  rw [lN_div ha hb0 hb, lN_mul, lN_sub (Nat.div_mul_le_self a b)]
def dS (z k i : Int32) : Int64 := ((((7919 : Int64) * z.toInt64) + ((6151 : Int64) * k.toInt64)) + ((331 : Int64) * i.toInt64)) + (1 : Int64)
def dR (s : Int64) : Int64 := ((s * s) - (s * s) / (65521 : Int64) * (65521 : Int64)) / (8 : Int64)
def drw (z k i : Int32) : Int32 := (dR (dS z k i) - dR (dS z k i) / (5 : Int64) * (5 : Int64)).toInt32
theorem drw_rg {z k i : Nat} (hz : z ≤ 9999) (hk : k ≤ 30) (hi : i ≤ 3) : rg 4 (drw (nI z) (nI k) (nI i)) := by
  have e : dS (nI z) (nI k) (nI i) = lN (7919 * z + 6151 * k + 331 * i + 1) := by
    unfold dS
    rw [nI_l (by omega), nI_l (by omega), nI_l (by omega), show (7919 : Int64) = lN 7919 from rfl, show (6151 : Int64) = lN 6151 from rfl, show (331 : Int64) = lN 331 from rfl, lN_mul, lN_mul, lN_mul, lN_add, lN_add, lN_1]
  have hs : 7919 * z + 6151 * k + 331 * i + 1 < 80000000 := by omega
  generalize 7919 * z + 6151 * k + 331 * i + 1 = s at e hs
  have hss : s * s < 2 ^ 63 := Nat.lt_of_le_of_lt (Nat.mul_le_mul (Nat.le_of_lt hs) (Nat.le_of_lt hs)) (by decide)
  unfold drw
  rw [e]
  unfold dR
  rw [lN_mul, show (65521 : Int64) = lN 65521 from rfl, show (8 : Int64) = lN 8 from rfl, show (5 : Int64) = lN 5 from rfl, lN_rem hss (by decide) (by decide)]
  generalize s * s = q at hss
  have hr : q - q / 65521 * 65521 < 65521 := by omega
  generalize q - q / 65521 * 65521 = r at hr
  rw [lN_div (by omega) (by decide) (by decide), lN_rem (by omega) (by decide) (by decide), lN_i]
  exact ⟨r / 8 - r / 8 / 5 * 5, by omega, rfl⟩
theorem spl_pt1 {X : Nat → Nat → Int32} {o j : Nat} {z : Int32} : spl X o 2 (pt (shf X o) 0 j z) = pt X o j z := by
  funext q
  by_cases g : q = o
  · subst g
    rw [spl_in (by omega), Nat.sub_self, pt_eq, pt_eq]; rfl
  · rw [pt_k g]
    by_cases g2 : q = o + 1
    · subst g2
      rw [spl_in (by omega), show o + 1 - o = 1 by omega, pt_k (by decide)]; rfl
    · rw [spl_out (by omega)]
theorem join_loop {T C z k : Nat} {kd : Nat → Int32} {cost : Int32} (hT : T ≤ 6) (hC : C ≤ 3) (hz : z ≤ 9999) (hk : k ≤ 30) : ∀ n c (r M : Nat → Nat → Int32), c ≤ 3 → 3 < c + n → M 0 11 = nI C → RS T C kd cost r (M 8) → RS T C kd cost (d_X3_joinDrawn_L2 (nI z) (nI k) n r c) (d_X7_springs_L57 (nI z) k n M c 8) ∧ ∀ q, q ≠ 8 → d_X7_springs_L57 (nI z) k n M c q = M q := by
  intro n
  induction n with
  | zero => intro c r M h1 h2; exact absurd h2 (by omega)
  | succ n ih =>
    intro c r M h1 h2 c1 h
    have n1 : ¬ (1 : Int32) = 0 := by decide
    by_cases g : 3 ≤ c
    · have e6 : d_X3_joinDrawn_L2 (nI z) (nI k) (n + 1) r c = r := by rw [d_X3_joinDrawn_L2]; exact if_pos (nI_le g (by omega))
      have e7 : d_X7_springs_L57 (nI z) k (n + 1) M c = M := by rw [d_X7_springs_L57, c1]; exact if_pos (nI_le (by omega) (by omega))
      rw [e6, e7]; exact ⟨h, fun _ _ => rfl⟩
    · have g' : ¬ nI 3 ≤ nI c := nI_ge (by omega) (by omega)
      by_cases g2 : C ≤ c
      · have e7 : ∀ m c', C ≤ c' → c' ≤ 3 → d_X7_springs_L57 (nI z) k m M c' = M := fun m c' hc hc3 => by
          cases m with
          | zero => rfl
          | succ m => rw [d_X7_springs_L57, c1]; exact if_pos (nI_le hc (by omega))
        have hs : d_X0_sails (shf r (9 + 2 * c)) = 0 := by
          rw [d_X0_sails]; exact if_pos ((RS_c h c (by omega)).mpr (by omega))
        have e6 : d_X3_joinDrawn_L2 (nI z) (nI k) (n + 1) r c = d_X3_joinDrawn_L2 (nI z) (nI k) n r (c + 1) := by
          rw [d_X3_joinDrawn_L2]; exact (if_neg g').trans ((lt_eq hs.symm).trans (if_pos rfl))
        have w := ih (c + 1) r M (by omega) (by omega) c1 h
        rw [e7 n (c + 1) (by omega) (by omega)] at w
        rw [e6, e7 (n + 1) c g2 (by omega)]; exact w
      · have th : ¬ shf r (9 + 2 * c) 0 0 = 0 := fun w => ((RS_c h c (by omega)).mp w) (by omega)
        obtain ⟨⟨p1, p2, p3⟩, p4⟩ := RS_C hC h (show c < C by omega)
        have c7 : ¬ M 0 11 ≤ nI c := by rw [c1]; exact nI_ge (by omega) (by omega)
        have e7' : d_X7_springs_L57 (nI z) k (n + 1) M c = if M 8 (43 + c) = 0 then (if M 8 (37 + c) + drw (nI z) (nI k) (nI c) ≤ 99 then d_X7_springs_L57 (nI z) k n (pt M 8 (37 + c) (M 8 (37 + c) + drw (nI z) (nI k) (nI c))) (c + 1) else d_X7_springs_L57 (nI z) k n (pt M 8 (37 + c) 99) (c + 1)) else d_X7_springs_L57 (nI z) k n M (c + 1) := by
          rw [d_X7_springs_L57]; exact (if_neg c7).trans (lt_eq rfl)
        rcases h.2.1 c (by omega) with b | b
        · have hs : d_X0_sails (shf r (9 + 2 * c)) = 1 := by
            rw [d_X0_sails]; exact (if_neg th).trans (if_pos (by show r (9 + 2 * c) 1 = 0; rw [p4, b]))
          have e6 : d_X3_joinDrawn_L2 (nI z) (nI k) (n + 1) r c = d_X3_joinDrawn_L2 (nI z) (nI k) n (spl r (9 + 2 * c) 2 (d_X0_grow (shf r (9 + 2 * c)) (drw (nI z) (nI k) (nI c)))) (c + 1) := by
            rw [d_X3_joinDrawn_L2]; exact (if_neg g').trans ((lt_eq hs.symm).trans ((if_neg n1).trans (lt_eq rfl)))
          have eg : spl r (9 + 2 * c) 2 (d_X0_grow (shf r (9 + 2 * c)) (drw (nI z) (nI k) (nI c))) = pt r (9 + 2 * c) 2 (sat 99 (M 8 (37 + c) + drw (nI z) (nI k) (nI c))) := by
            rw [d_X0_grow, spl_pt1, imin_sat]
            show pt r (9 + 2 * c) 2 (sat 99 (r (9 + 2 * c) 2 + _)) = _
            rw [p1]
          have hd := rg_sat (m := 99) (rg_add (h.2.2.1.2 c (by omega)).1 (drw_rg hz hk (show c ≤ 3 by omega))) (by decide) (by decide)
          generalize drw (nI z) (nI k) (nI c) = d at e7' e6 eg hd
          have hd' : rg 99 (sat 99 (M 8 (37 + c) + d)) := hd
          have e7 : d_X7_springs_L57 (nI z) k (n + 1) M c = d_X7_springs_L57 (nI z) k n (pt M 8 (37 + c) (sat 99 (M 8 (37 + c) + d))) (c + 1) := by
            rw [e7', if_pos b]
            unfold sat
            by_cases w : M 8 (37 + c) + d ≤ 99
            · rw [if_pos w, if_pos w]
            · rw [if_neg w, if_neg w]
          generalize sat 99 (M 8 (37 + c) + d) = y at eg hd' e7
          rw [e6, eg, e7]
          have hr := RS_uc (z := y) hT hC h (show c < C by omega) (Or.inr ⟨rfl, rfl⟩) (RG_up1 hT hC h.2.2.1 (fun _ _ w => absurd w (by omega)) (fun _ _ w => absurd w (by omega)) (fun _ _ w => absurd w (by omega)) (fun _ _ _ => hd') (fun _ _ w => absurd w (by omega)) (fun _ _ _ _ w => absurd w (by omega)))
          rw [← pt_eq (R := M) (k := 8)] at hr
          obtain ⟨x1, x2⟩ := ih (c + 1) (pt r (9 + 2 * c) 2 y) (pt M 8 (37 + c) y) (by omega) (by omega) (by rw [pt_k (by decide)]; exact c1) hr
          exact ⟨x1, fun q hq => by rw [x2 q hq, pt_k hq]⟩
        · have hs : d_X0_sails (shf r (9 + 2 * c)) = 0 := by
            rw [d_X0_sails]; exact (if_neg th).trans (if_neg (by show ¬ r (9 + 2 * c) 1 = 0; rw [p4, b]; exact n1))
          have e6 : d_X3_joinDrawn_L2 (nI z) (nI k) (n + 1) r c = d_X3_joinDrawn_L2 (nI z) (nI k) n r (c + 1) := by
            rw [d_X3_joinDrawn_L2]; exact (if_neg g').trans ((lt_eq hs.symm).trans (if_pos rfl))
          rw [e7', if_neg (by rw [b]; exact n1), e6]
          exact ih (c + 1) r M (by omega) (by omega) c1 h
theorem springs_loop {T C z N : Nat} {R0 M0 : Nat → Nat → Int32} (hT : T ≤ 6) (hC : C ≤ 3) (t1 : M0 0 10 = nI T) (c1 : M0 0 11 = nI C) (hk : rg 30 (M0 0 12)) (hz : z ≤ 9999) (hN : N ≤ 30) : ∀ n m k R M, k ≤ N → N < k + n → N < k + m → TR R0 R M0 M → RS T C (M0 5) (M0 0 12) (shf R 40) (M 8) → TR R0 (d_X6_springs_L47 (nI z) (nI N) n R k) M0 (d_X7_springs_L48 (nI z) (nI N) m M k) ∧ RS T C (M0 5) (M0 0 12) (shf (d_X6_springs_L47 (nI z) (nI N) n R k) 40) (d_X7_springs_L48 (nI z) (nI N) m M k 8) := by
  intro n
  induction n with
  | zero => intro m k R M h1 h2; exact absurd h2 (by omega)
  | succ n ih =>
    intro m k R M h1 h2 h3 h hr
    cases m with
    | zero => exact absurd h3 (by omega)
    | succ m =>
      by_cases g : N ≤ k
      · have e6 : d_X6_springs_L47 (nI z) (nI N) (n + 1) R k = R := by rw [d_X6_springs_L47]; exact if_pos (nI_le g (by omega))
        have e7 : d_X7_springs_L48 (nI z) (nI N) (m + 1) M k = M := by rw [d_X7_springs_L48]; exact if_pos (nI_le g (by omega))
        rw [e6, e7]; exact ⟨h, hr⟩
      · have g' : ¬ nI N ≤ nI k := nI_ge (by omega) (by omega)
        obtain ⟨j1, j2⟩ := join_loop hT hC hz (show k ≤ 30 by omega) 4 0 (shf R 40) M (by omega) (by omega) ((h.2.2.1 11 (by decide)).trans c1) hr
        have e6 : d_X6_springs_L47 (nI z) (nI N) (n + 1) R k = d_X6_springs_L47 (nI z) (nI N) n (spl (spl R 40 15 (d_X3_joinDrawn_L2 (nI z) (nI k) 4 (shf R 40) 0)) 40 15 (d_X3_goBy (shf (spl R 40 15 (d_X3_joinDrawn_L2 (nI z) (nI k) 4 (shf R 40) 0)) 40) 1)) (k + 1) := by
          rw [d_X6_springs_L47]; exact (if_neg g').trans ((lt_eq rfl).trans (lt_eq rfl))
        have e7 : d_X7_springs_L48 (nI z) (nI N) (m + 1) M k = d_X7_springs_L48 (nI z) (nI N) m (spl (d_X7_springs_L57 (nI z) k 4 M 0) 8 1 (d_X7_spring (shf (d_X7_springs_L57 (nI z) k 4 M 0) 0) (shf (d_X7_springs_L57 (nI z) k 4 M 0) 5) (shf (d_X7_springs_L57 (nI z) k 4 M 0) 8))) (k + 1) := by
          rw [d_X7_springs_L48]; exact (if_neg g').trans ((lt_eq rfl).trans (lt_eq rfl))
        generalize d_X7_springs_L57 (nI z) k 4 M 0 = M' at j1 j2 e7
        obtain ⟨b1, b2⟩ := tr_blk hT (h.m8 j2) j1
        generalize spl R 40 15 (d_X3_joinDrawn_L2 (nI z) (nI k) 4 (shf R 40) 0) = R' at b1 b2 e6
        obtain ⟨d1, d2⟩ := tr_step hT hC t1 c1 hk b1 b2
        rw [e6, e7]
        exact ih m (k + 1) _ _ (by omega) (by omega) (by omega) d1 d2
theorem s_springs {R M : Nat → Nat → Int32} {z n what : Int32} (h : Inv R M) : (d_X6_springs R z n what).1 = (d_X7_springs M z n what).1 ∧ Inv (d_X6_springs R z n what).2 (d_X7_springs M z n what).2 := by
  have h' := h
  obtain ⟨T, C, hT, hC, t1, c1, k1, -, hnow, -⟩ := h'
  have n1 : ¬ (1 : Int32) = 0 := by decide
  by_cases g1 : z < 0 ∨ 9999 < z
  · have e7 : d_X7_springs M z n what = (-1, M) := by rw [d_X7_springs]; exact (lt_eq (y := 0) (by rw [in_eq, if_pos g1])).trans (if_pos rfl)
    have e6 : d_X6_springs R z n what = (-1, R) := by
      rw [d_X6_springs]
      by_cases g2 : z < 0
      · exact if_pos g2
      · exact (if_neg g2).trans (if_pos (g1.resolve_left g2))
    rw [e6, e7]; exact ⟨rfl, h⟩
  · obtain ⟨Z, hZ, rfl⟩ := rg_in (N := 9999) (fun w => g1 (Or.inl w)) (fun w => g1 (Or.inr w)) (by decide)
    have i1 : d_X7_in (nI Z) 0 9999 = 1 := by rw [in_eq, if_neg g1]
    have p1 : ∀ x : Int32 × (Nat → Nat → Int32), (if n < 1 then ((-1 : Int32), R) else if 30 < n then (-1, R) else if what < 0 then (-1, R) else if what ≤ 1 then (lt (d_X3_copy (shf R 40) (shf R 22)) fun u9 => lt (d_X6_springs_L47 (nI Z) n (n.toNatClampNeg + 1) (spl R 40 15 u9) 0) fun s40 => if what = 0 then lt (d_X3_townsBurnt (shf s40 40)) fun u50 => (u50, s40) else lt (d_X3_silverOfAll (shf s40 40)) fun u45 => (u45, s40)) else (-1, R)) = x → d_X6_springs R (nI Z) n what = x := fun x hx => by
      rw [d_X6_springs]; exact (if_neg (fun w => g1 (Or.inl w))).trans ((if_neg (fun w => g1 (Or.inr w))).trans hx)
    by_cases g2 : n < 1 ∨ 30 < n
    · have e7 : d_X7_springs M (nI Z) n what = (-1, M) := by rw [d_X7_springs]; exact (lt_eq i1.symm).trans ((if_neg n1).trans ((lt_eq (y := 0) (by rw [in_eq, if_pos g2])).trans (if_pos rfl)))
      have e6 : d_X6_springs R (nI Z) n what = (-1, R) := p1 _ (by
        by_cases g3 : n < 1
        · exact if_pos g3
        · exact (if_neg g3).trans (if_pos (g2.resolve_left g3)))
      rw [e6, e7]; exact ⟨rfl, h⟩
    · obtain ⟨N, hN, rfl⟩ := rg_in (N := 30) (fun w => g2 (Or.inl (Int32.lt_trans w (by decide)))) (fun w => g2 (Or.inr w)) (by decide)
      have i2 : d_X7_in (nI N) 1 30 = 1 := by rw [in_eq, if_neg g2]
      by_cases g3 : what < 0 ∨ 1 < what
      · have e7 : d_X7_springs M (nI Z) (nI N) what = (-1, M) := by rw [d_X7_springs]; exact (lt_eq i1.symm).trans ((if_neg n1).trans ((lt_eq i2.symm).trans ((if_neg n1).trans ((lt_eq (y := 0) (by rw [in_eq, if_pos g3])).trans (if_pos rfl)))))
        have e6 : d_X6_springs R (nI Z) (nI N) what = (-1, R) := p1 _ ((if_neg (fun w => g2 (Or.inl w))).trans ((if_neg (fun w => g2 (Or.inr w))).trans (by
          by_cases g4 : what < 0
          · exact if_pos g4
          · exact (if_neg g4).trans (if_neg (Int32.not_le.mpr (g3.resolve_left g4))))))
        rw [e6, e7]; exact ⟨rfl, h⟩
      · have i3 : d_X7_in what 0 1 = 1 := by rw [in_eq, if_neg g3]
        obtain ⟨a1, a2⟩ := tr_copy hT hC (TR.start h) (Or.inl ⟨rfl, rfl⟩) hnow
        obtain ⟨b1, b2⟩ := springs_loop hT hC t1 c1 k1 hZ hN (N + 1) 31 0 _ _ (by omega) (by omega) (by omega) a1 a2
        have cN : (nI N).toNatClampNeg = N := nI_clamp (by omega)
        have e6 : d_X6_springs R (nI Z) (nI N) what = if what = 0 then (d_X3_townsBurnt (shf (d_X6_springs_L47 (nI Z) (nI N) (N + 1) (spl R 40 15 (d_X3_copy (shf R 40) (shf R 22))) 0) 40), d_X6_springs_L47 (nI Z) (nI N) (N + 1) (spl R 40 15 (d_X3_copy (shf R 40) (shf R 22))) 0) else (d_X3_silverOfAll (shf (d_X6_springs_L47 (nI Z) (nI N) (N + 1) (spl R 40 15 (d_X3_copy (shf R 40) (shf R 22))) 0) 40), d_X6_springs_L47 (nI Z) (nI N) (N + 1) (spl R 40 15 (d_X3_copy (shf R 40) (shf R 22))) 0) := p1 _ (by
          rw [cN]
          exact (if_neg (fun w => g2 (Or.inl w))).trans ((if_neg (fun w => g2 (Or.inr w))).trans ((if_neg (fun w => g3 (Or.inl w))).trans ((if_pos (Int32.not_lt.mp (fun w => g3 (Or.inr w)))).trans ((lt_eq rfl).trans (lt_eq rfl))))))
        have e7 : d_X7_springs M (nI Z) (nI N) what = if what = 0 then (d_X7_burntOf (shf (d_X7_springs_L48 (nI Z) (nI N) 31 (spl M 8 1 (d_X7_copy (shf M 6) (shf M 8) 64 64 0 0)) 0) 0) (shf (d_X7_springs_L48 (nI Z) (nI N) 31 (spl M 8 1 (d_X7_copy (shf M 6) (shf M 8) 64 64 0 0)) 0) 8), d_X7_springs_L48 (nI Z) (nI N) 31 (spl M 8 1 (d_X7_copy (shf M 6) (shf M 8) 64 64 0 0)) 0) else (d_X7_silverOf (shf (d_X7_springs_L48 (nI Z) (nI N) 31 (spl M 8 1 (d_X7_copy (shf M 6) (shf M 8) 64 64 0 0)) 0) 0) (shf (d_X7_springs_L48 (nI Z) (nI N) 31 (spl M 8 1 (d_X7_copy (shf M 6) (shf M 8) 64 64 0 0)) 0) 8), d_X7_springs_L48 (nI Z) (nI N) 31 (spl M 8 1 (d_X7_copy (shf M 6) (shf M 8) 64 64 0 0)) 0) := by
          rw [d_X7_springs]
          exact (lt_eq i1.symm).trans ((if_neg n1).trans ((lt_eq i2.symm).trans ((if_neg n1).trans ((lt_eq i3.symm).trans ((if_neg n1).trans ((lt_eq rfl).trans (lt_eq rfl)))))))
        generalize d_X6_springs_L47 (nI Z) (nI N) (N + 1) (spl R 40 15 (d_X3_copy (shf R 40) (shf R 22))) 0 = X at b1 b2 e6
        generalize d_X7_springs_L48 (nI Z) (nI N) 31 (spl M 8 1 (d_X7_copy (shf M 6) (shf M 8) 64 64 0 0)) 0 = Y at b1 b2 e7
        have t1' : shf Y 0 0 10 = nI T := (b1.2.2.1 10 (by decide)).trans t1
        rw [e6, e7]
        by_cases w : what = 0
        · rw [if_pos w, if_pos w]
          exact ⟨townsBurnt_eq hT t1' (S := shf Y 8) b2, b1.inv h⟩
        · rw [if_neg w, if_neg w]
          exact ⟨silverOf_eq hT t1' (S := shf Y 8) b2, b1.inv h⟩
