/-! raise, hire -/
theorem upd_comm {a : Nat → Int32} {i j : Nat} {x y : Int32} (h : i ≠ j) : upd (upd a i x) j y = upd (upd a j y) i x := by
  funext k
  by_cases e : k = j
  · rw [e, up_e, up_o (fun w => h w.symm), up_e]
  · rw [up_o e]
    by_cases e2 : k = i
    · rw [e2, up_e, up_e]
    · rw [up_o e2, up_o e2, up_o e]
theorem s_raise {R M : Nat → Nat → Int32} {t t' : Int32} (h : Inv R M) : (d_X6_raise R t t').1 = (d_X7_raise M t t').1 ∧ Inv (d_X6_raise R t t').2 (d_X7_raise M t t').2 := by
  obtain ⟨T, C, hT, hC, t1, c1, k1, hnow, S, u, X, Y, hS, hu, hX, hY, x0, y0, e0, hn, hI⟩ := noted h
  have n1 : ¬ (1 : Int32) = 0 := by decide
  have n0 : ¬ (0 : Int32) = 1 := by decide
  rcases town_cases (Q := shf M 0) (t := t) hT t1 (RS_t hnow) with ⟨v, hv, rfl, e1, e2⟩ | ⟨e1, e2⟩
  · rcases town_cases (Q := shf M 0) (t := t') hT t1 (RS_t hnow) with ⟨w, hw, rfl, e3, e4⟩ | ⟨e3, e4⟩
    · have c0 : (nI v).toNatClampNeg = v := nI_clamp (by omega)
      have c2 : (nI w).toNatClampNeg = w := nI_clamp (by omega)
      by_cases g1 : nI v = nI w
      · have e6 : d_X6_raise R (nI v) (nI w) = (-1, R) := by rw [d_X6_raise]; exact (oc_some e1).trans ((oc_some e3).trans (if_pos g1))
        have e7 : d_X7_raise M (nI v) (nI w) = (-1, M) := by
          rw [d_X7_raise]; exact (lt_eq e2.symm).trans ((if_neg n1).trans ((lt_eq e4.symm).trans ((if_neg n1).trans (if_pos g1))))
        rw [e6, e7]; exact ⟨rfl, h⟩
      · have hvw : v ≠ w := fun z => g1 (by rw [z])
        have q1 : R (25 + v) 1 = M 6 (25 + v) := (now_T hnow hv).1
        have q2 : R (25 + w) 1 = M 6 (25 + w) := (now_T hnow hw).1
        have q3 : R (25 + v) 3 = M 6 (1 + v) := (now_T hnow hv).2.2.1
        rcases (hnow.2.2.1.1 v hv).2.1 with b1 | b1
        · rcases (hnow.2.2.1.1 w hw).2.1 with b2 | b2
          · have e6 : d_X6_raise R (nI v) (nI w) = (-2, R) := by rw [d_X6_raise]; exact (oc_some e1).trans ((oc_some e3).trans ((if_neg g1).trans ((if_pos (by rw [q1]; exact b1)).trans (if_pos (by rw [q2]; exact b2)))))
            have e7 : d_X7_raise M (nI v) (nI w) = (-2, M) := by
              rw [d_X7_raise, c0, c2]; exact (lt_eq e2.symm).trans ((if_neg n1).trans ((lt_eq e4.symm).trans ((if_neg n1).trans ((if_neg g1).trans ((if_neg (by rw [b1]; exact n0)).trans (if_pos b2))))))
            rw [e6, e7]; exact ⟨rfl, h⟩
          · by_cases g2 : 20 ≤ M 6 (1 + v)
            · obtain ⟨-, -, p3, -⟩ := now_T hn hv
              have y6 : Y 6 = M 6 := y0 6 (by decide) (by decide)
              have hs := rg_sub (hnow.2.2.1.1 v hv).1 (M := 20) (y := 20) ⟨20, by decide, rfl⟩ (by decide) (by decide) (Int32.not_lt.mpr g2)
              generalize hA : M 6 (1 + v) - 20 = A at hs
              have e6 : d_X6_raise R (nI v) (nI w) = (A, pt (pt (pt (pt X (25 + v) 3 A) (25 + w) 1 0) (25 + w) 3 10) (25 + w) 5 0) := by
                rw [d_X6_raise]
                refine (oc_some e1).trans ((oc_some e3).trans ((if_neg g1).trans ((if_pos (by rw [q1]; exact b1)).trans ((if_neg (by rw [q2, b2]; exact n1)).trans ((if_pos (by rw [q3]; exact g2)).trans ((lt_eq hS).trans ?_))))))
                rw [hX, p3, y6, hA, pt_o (by omega), pt_o (by omega), pt_o (by omega), pt_i]
              have e7 : d_X7_raise M (nI v) (nI w) = (A, pt (pt (pt (pt Y 6 (1 + v) A) 6 (1 + w) 10) 6 (13 + w) 0) 6 (25 + w) 0) := by
                rw [d_X7_raise, c0, c2]
                refine (lt_eq e2.symm).trans ((if_neg n1).trans ((lt_eq e4.symm).trans ((if_neg n1).trans ((if_neg g1).trans ((if_neg (by rw [b1]; exact n0)).trans ((if_neg (by rw [b2]; exact n1)).trans ((if_pos g2).trans ((lt_eq hu).trans ?_))))))))
                rw [hY, hA]
                exact lt_eq (by rw [pt_o (by omega), pt_o (by omega), pt_o (by omega), pt_i])
              rw [e6, e7]
              refine ⟨rfl, hI _ _ (fun q hq => by dsimp only; rw [pt_k (by omega), pt_k (by omega), pt_k (by omega), pt_k (by omega)]) (fun q hq => by dsimp only; rw [pt_k hq, pt_k hq, pt_k hq, pt_k hq]) ?_⟩
              dsimp only
              rw [shf_pt (i := 22) (n := 3 + w) (by omega), shf_pt (i := 22) (n := 3 + w) (by omega), shf_pt (i := 22) (n := 3 + w) (by omega), shf_pt (i := 22) (n := 3 + v) (by omega), pt_eq, pt_eq, pt_eq, pt_eq]
              rw [upd_comm (show 13 + w ≠ 25 + w by omega), upd_comm (show 1 + w ≠ 25 + w by omega)]
              have k1' := RS_ut (z := A) hT hC hn hv (Or.inr (Or.inl ⟨rfl, rfl⟩)) (RG_up1 hT hC hn.2.2.1 (fun t ht w => ⟨hs, fun q => by
                have : t = v := by omega
                rw [this, y6, b1] at q; exact absurd q n0⟩) (fun _ _ w => absurd w (by omega)) (fun _ _ w => absurd w (by omega)) (fun _ _ w => absurd w (by omega)) (fun _ _ w => absurd w (by omega)) (fun _ _ _ _ w => absurd w (by omega))) (ZR_up1 hn.2.2.2 (fun _ _ _ => hs) (fun _ _ w => absurd w (by omega)))
              have k2' := RS_ut (z := 0) hT hC k1' hw (Or.inl ⟨rfl, rfl⟩) (RG_up1 hT hC k1'.2.2.1 (fun _ _ w => absurd w (by omega)) (fun _ _ _ => rfl) (fun _ _ w => absurd w (by omega)) (fun _ _ w => absurd w (by omega)) (fun _ _ w => absurd w (by omega)) (fun _ _ _ _ w => absurd w (by omega))) (ZR_up1 k1'.2.2.2 (fun _ _ w => absurd w (by omega)) (fun _ _ w => absurd w (by omega)))
              have r10 : rg 999 10 := ⟨10, by decide, rfl⟩
              have k3' := RS_ut (z := 10) hT hC k2' hw (Or.inr (Or.inl ⟨rfl, rfl⟩)) (RG_up1 hT hC k2'.2.2.1 (fun t ht z => ⟨r10, fun q => by
                have : t = w := by omega
                rw [this, up_e] at q; exact absurd q n0⟩) (fun _ _ w => absurd w (by omega)) (fun _ _ w => absurd w (by omega)) (fun _ _ w => absurd w (by omega)) (fun _ _ w => absurd w (by omega)) (fun _ _ _ _ w => absurd w (by omega))) (ZR_up1 k2'.2.2.2 (fun _ _ _ => r10) (fun _ _ w => absurd w (by omega)))
              exact RS_ut (z := 0) hT hC k3' hw (Or.inr (Or.inr (Or.inr (Or.inl ⟨rfl, rfl⟩)))) (RG_up1 hT hC k3'.2.2.1 (fun _ _ w => absurd w (by omega)) (fun _ _ w => absurd w (by omega)) (fun _ _ w => absurd w (by omega)) (fun _ _ w => absurd w (by omega)) (fun _ _ w => absurd w (by omega)) (fun _ _ _ _ w => absurd w (by omega))) (ZR_up1 k3'.2.2.2 (fun _ _ w => absurd w (by omega)) (fun _ _ _ => rg_0))
            · have e6 : d_X6_raise R (nI v) (nI w) = (-2, R) := by rw [d_X6_raise]; exact (oc_some e1).trans ((oc_some e3).trans ((if_neg g1).trans ((if_pos (by rw [q1]; exact b1)).trans ((if_neg (by rw [q2, b2]; exact n1)).trans (if_neg (by rw [q3]; exact g2))))))
              have e7 : d_X7_raise M (nI v) (nI w) = (-2, M) := by
                rw [d_X7_raise, c0, c2]; exact (lt_eq e2.symm).trans ((if_neg n1).trans ((lt_eq e4.symm).trans ((if_neg n1).trans ((if_neg g1).trans ((if_neg (by rw [b1]; exact n0)).trans ((if_neg (by rw [b2]; exact n1)).trans (if_neg g2)))))))
              rw [e6, e7]; exact ⟨rfl, h⟩
        · have e6 : d_X6_raise R (nI v) (nI w) = (-2, R) := by rw [d_X6_raise]; exact (oc_some e1).trans ((oc_some e3).trans ((if_neg g1).trans (if_neg (by rw [q1, b1]; exact n1))))
          have e7 : d_X7_raise M (nI v) (nI w) = (-2, M) := by
            rw [d_X7_raise, c0, c2]; exact (lt_eq e2.symm).trans ((if_neg n1).trans ((lt_eq e4.symm).trans ((if_neg n1).trans ((if_neg g1).trans (if_pos b1)))))
          rw [e6, e7]; exact ⟨rfl, h⟩
    · have e6 : d_X6_raise R (nI v) t' = (-1, R) := by rw [d_X6_raise]; exact (oc_some e1).trans (oc_none e3)
      have e7 : d_X7_raise M (nI v) t' = (-1, M) := by rw [d_X7_raise]; exact (lt_eq e2.symm).trans ((if_neg n1).trans ((lt_eq e4.symm).trans (if_pos rfl)))
      rw [e6, e7]; exact ⟨rfl, h⟩
  · have e6 : d_X6_raise R t t' = (-1, R) := by rw [d_X6_raise]; exact (oc_none e1).trans (by cases d_X3_townAt (shf R 22) t' <;> rfl)
    have e7 : d_X7_raise M t t' = (-1, M) := by rw [d_X7_raise]; exact (lt_eq e2.symm).trans (if_pos rfl)
    rw [e6, e7]; exact ⟨rfl, h⟩
theorem fight_eq {X : Nat → Nat → Int32} {o : Nat} {f : Int32} : spl X o 2 (d_X0_fightLosing (shf X o) f) = pt (pt X o 2 (X o 2 - f)) o 1 (if 0 < X o 2 - f then 0 else 1) := by
  have e : d_X0_fightLosing (shf X o) f = pt (pt (shf X o) 0 2 (X o 2 - f)) 0 1 (if 0 < X o 2 - f then 0 else 1) := by
    rw [d_X0_fightLosing]
    show (if 0 < X o 2 - f then _ else _) = _
    by_cases g : 0 < X o 2 - f
    · rw [if_pos g, if_pos g]; rfl
    · rw [if_neg g, if_neg g]; rfl
  rw [e]
  funext q
  by_cases g : q = o
  · subst g
    rw [spl_in (by omega), Nat.sub_self, pt_eq, pt_eq, pt_eq, pt_eq]; rfl
  · rw [pt_k g, pt_k g]
    by_cases g2 : q = o + 1
    · subst g2
      rw [spl_in (by omega), show o + 1 - o = 1 by omega, pt_k (by decide), pt_k (by decide)]; rfl
    · rw [spl_out (by omega)]
theorem hire_tail {Q : Nat → Nat → Int32} {a b : Nat} (ha : a < 3) (hb : b < 3) : (if Q 6 (37 + a) = 0 then
    (if (pt Q 6 (43 + a) (1 : Int32)) 6 (37 + b) = 0 then lt ((pt (pt Q 6 (43 + a) (1 : Int32)) 6 (43 + b) (1 : Int32)) 6 (37 + a)) fun y => (y, pt (pt Q 6 (43 + a) (1 : Int32)) 6 (43 + b) (1 : Int32))
     else lt ((pt (pt Q 6 (43 + a) (1 : Int32)) 6 (43 + b) (0 : Int32)) 6 (37 + a)) fun y => (y, pt (pt Q 6 (43 + a) (1 : Int32)) 6 (43 + b) (0 : Int32)))
   else (if (pt Q 6 (43 + a) (0 : Int32)) 6 (37 + b) = 0 then lt ((pt (pt Q 6 (43 + a) (0 : Int32)) 6 (43 + b) (1 : Int32)) 6 (37 + a)) fun y => (y, pt (pt Q 6 (43 + a) (0 : Int32)) 6 (43 + b) (1 : Int32))
     else lt ((pt (pt Q 6 (43 + a) (0 : Int32)) 6 (43 + b) (0 : Int32)) 6 (37 + a)) fun y => (y, pt (pt Q 6 (43 + a) (0 : Int32)) 6 (43 + b) (0 : Int32)))) = (Q 6 (37 + a), pt (pt Q 6 (43 + a) (if Q 6 (37 + a) = 0 then 1 else 0)) 6 (43 + b) (if Q 6 (37 + b) = 0 then 1 else 0)) := by
  have z1 : ∀ g, pt Q 6 (43 + a) g 6 (37 + b) = Q 6 (37 + b) := fun g => pt_o (by omega)
  have z2 : ∀ g g', pt (pt Q 6 (43 + a) g) 6 (43 + b) g' 6 (37 + a) = Q 6 (37 + a) := fun g g' => by rw [pt_o (by omega), pt_o (by omega)]
  rw [z1, z1]
  by_cases g1 : Q 6 (37 + a) = 0
  · by_cases g2 : Q 6 (37 + b) = 0
    · rw [if_pos g1, if_pos g2, if_pos g1, if_pos g2]; exact lt_eq (z2 _ _).symm
    · rw [if_pos g1, if_neg g2, if_pos g1, if_neg g2]; exact lt_eq (z2 _ _).symm
  · by_cases g2 : Q 6 (37 + b) = 0
    · rw [if_neg g1, if_pos g2, if_neg g1, if_pos g2]; exact lt_eq (z2 _ _).symm
    · rw [if_neg g1, if_neg g2, if_neg g1, if_neg g2]; exact lt_eq (z2 _ _).symm
theorem gone_of {x : Int32} (h : rg 99 x) : (if 0 < x then (0 : Int32) else 1) = if x = 0 then 1 else 0 := by
  obtain ⟨n, hn, rfl⟩ := h
  by_cases g : n = 0
  · subst g; decide
  · rw [if_pos (by rw [← nI_0]; exact nI_lt (by omega) (by omega)), if_neg (nI_ne0 (by omega) (by omega))]
theorem bin_of {z g : Int32} (h : (if z = 0 then (1 : Int32) else 0) = g) : g = 0 ∨ g = 1 := by
  rw [← h]
  by_cases q : z = 0
  · rw [if_pos q]; exact Or.inr rfl
  · rw [if_neg q]; exact Or.inl rfl
theorem s_hire {R M : Nat → Nat → Int32} {t a b : Int32} (h : Inv R M) : (d_X6_hire R t a b).1 = (d_X7_hire M t a b).1 ∧ Inv (d_X6_hire R t a b).2 (d_X7_hire M t a b).2 := by
  obtain ⟨T, C, hT, hC, t1, c1, k1, hnow, S, u, X, Y, hS, hu, hX, hY, x0, y0, e0, hn, hI⟩ := noted h
  have n1 : ¬ (1 : Int32) = 0 := by decide
  have n0 : ¬ (0 : Int32) = 1 := by decide
  rcases town_cases (Q := shf M 0) (t := t) hT t1 (RS_t hnow) with ⟨v, hv, rfl, e1, e2⟩ | ⟨e1, e2⟩
  · rcases crew_cases (Q := shf M 0) (c := a) hC c1 (RS_c hnow) with ⟨x, hx, rfl, e3, e4⟩ | ⟨e3, e4⟩
    · rcases crew_cases (Q := shf M 0) (c := b) hC c1 (RS_c hnow) with ⟨w, hw, rfl, e5, e5'⟩ | ⟨e5, e5'⟩
      · have c0 : (nI v).toNatClampNeg = v := nI_clamp (by omega)
        have c2 : (nI x).toNatClampNeg = x := nI_clamp (by omega)
        have c3 : (nI w).toNatClampNeg = w := nI_clamp (by omega)
        by_cases g1 : nI x = nI w
        · have e6 : d_X6_hire R (nI v) (nI x) (nI w) = (-1, R) := by rw [d_X6_hire]; exact (oc_some e1).trans ((oc_some e3).trans ((oc_some e5).trans (if_pos g1)))
          have e7 : d_X7_hire M (nI v) (nI x) (nI w) = (-1, M) := by
            rw [d_X7_hire]; exact (lt_eq e2.symm).trans ((if_neg n1).trans ((lt_eq e4.symm).trans ((if_neg n1).trans ((lt_eq e5'.symm).trans ((if_neg n1).trans (if_pos g1))))))
          rw [e6, e7]; exact ⟨rfl, h⟩
        · have hxw : x ≠ w := fun z => g1 (by rw [z])
          have q1 : R (25 + v) 1 = M 6 (25 + v) := (now_T hnow hv).1
          have q2 : R (25 + v) 3 = M 6 (1 + v) := (now_T hnow hv).2.2.1
          obtain ⟨-, q4, q5⟩ := now_C hC hnow hx
          obtain ⟨-, -, q6⟩ := now_C hC hnow hw
          have A6 : ∀ z, (if R (25 + v) 1 = 0 then if R (31 + 2 * x) 1 = 0 then if R (31 + 2 * w) 1 = 0 then if R (31 + 2 * x) 3 ≤ R (25 + v) 3 then z else ((-2 : Int32), R) else (-2, R) else (-2, R) else (-2, R)) = if M 6 (25 + v) = 0 ∧ M 6 (43 + x) = 0 ∧ M 6 (43 + w) = 0 ∧ M 6 (40 + x) ≤ M 6 (1 + v) then z else (-2, R) := by
            intro z
            rw [q1, q5, q6, q4, q2]
            by_cases w1 : M 6 (25 + v) = 0
            · rw [if_pos w1]
              by_cases w2 : M 6 (43 + x) = 0
              · rw [if_pos w2]
                by_cases w3 : M 6 (43 + w) = 0
                · rw [if_pos w3]
                  by_cases w4 : M 6 (40 + x) ≤ M 6 (1 + v)
                  · rw [if_pos w4, if_pos ⟨w1, w2, w3, w4⟩]
                  · rw [if_neg w4, if_neg (fun q => w4 q.2.2.2)]
                · rw [if_neg w3, if_neg (fun q => w3 q.2.2.1)]
              · rw [if_neg w2, if_neg (fun q => w2 q.2.1)]
            · rw [if_neg w1, if_neg (fun q => w1 q.1)]
          have A7 : ∀ z, (if M 6 (25 + v) = 1 then ((-2 : Int32), M) else if M 6 (43 + x) = 1 then (-2, M) else if M 6 (43 + w) = 1 then (-2, M) else if M 6 (40 + x) ≤ M 6 (1 + v) then z else (-2, M)) = if M 6 (25 + v) = 0 ∧ M 6 (43 + x) = 0 ∧ M 6 (43 + w) = 0 ∧ M 6 (40 + x) ≤ M 6 (1 + v) then z else (-2, M) := by
            intro z
            rcases (hnow.2.2.1.1 v hv).2.1 with w1 | w1
            · rw [w1, if_neg n0]
              rcases hnow.2.1 x hx with w2 | w2
              · rw [w2, if_neg n0]
                rcases hnow.2.1 w hw with w3 | w3
                · rw [w3, if_neg n0]
                  by_cases w4 : M 6 (40 + x) ≤ M 6 (1 + v)
                  · rw [if_pos w4, if_pos ⟨rfl, rfl, rfl, w4⟩]
                  · rw [if_neg w4, if_neg (fun q => w4 q.2.2.2)]
                · rw [w3, if_pos rfl, if_neg (fun q => n1 q.2.2.1)]
              · rw [w2, if_pos rfl, if_neg (fun q => n1 q.2.1)]
            · rw [w1, if_pos rfl, if_neg (fun q => n1 q.1)]
          by_cases g2 : M 6 (25 + v) = 0 ∧ M 6 (43 + x) = 0 ∧ M 6 (43 + w) = 0 ∧ M 6 (40 + x) ≤ M 6 (1 + v)
          · obtain ⟨b1, b2, b3, b4⟩ := g2
            have y6 : Y 6 = M 6 := y0 6 (by decide) (by decide)
            have hs := rg_sub (hnow.2.2.1.1 v hv).1 (hnow.2.2.1.2 x hx).2.1 (by decide) (by decide) (Int32.not_lt.mpr b4)
            generalize hA : M 6 (1 + v) - M 6 (40 + x) = A at hs
            obtain ⟨p2, p3, -⟩ := now_C hC hn hx
            obtain ⟨p4, -, -⟩ := now_C hC hn hw
            obtain ⟨-, -, p5, -⟩ := now_T hn hv
            have hm1 := (hnow.2.2.1.2 x hx).1
            have hm2 := (hnow.2.2.1.2 w hw).1
            have hf : ∃ f, imin (M 6 (37 + x)) (M 6 (37 + w)) = f ∧ (if M 6 (37 + w) ≤ M 6 (37 + x) then M 6 (37 + w) else M 6 (37 + x)) = f ∧ rg 99 (M 6 (37 + x) - f) ∧ rg 99 (M 6 (37 + w) - f) := by
              obtain ⟨i, hi, ei⟩ := hm1
              obtain ⟨k, hk, ek⟩ := hm2
              rw [ei, ek]
              unfold imin
              by_cases g : k < i
              · rw [if_pos (nI_lt g (by omega)), if_pos (nI_le (by omega) (by omega))]
                exact ⟨_, rfl, rfl, ⟨i - k, by omega, nI_sub (by omega)⟩, ⟨k - k, by omega, nI_sub (by omega)⟩⟩
              · rw [if_neg (nI_nlt (by omega) (by omega))]
                refine ⟨_, rfl, ?_, ⟨i - i, by omega, nI_sub (by omega)⟩, ⟨k - i, by omega, nI_sub (by omega)⟩⟩
                by_cases g3 : k ≤ i
                · rw [if_pos (nI_le g3 (by omega)), show k = i by omega]
                · rw [if_neg (nI_ge (by omega) (by omega))]
            obtain ⟨f, f1, f2, f3, f4⟩ := hf
            generalize hz : M 6 (37 + x) - f = z at f3
            generalize hz' : M 6 (37 + w) - f = z' at f4
            have gz := gone_of f3
            have gz' := gone_of f4
            generalize hg : (if z = 0 then (1 : Int32) else 0) = g at gz
            generalize hg' : (if z' = 0 then (1 : Int32) else 0) = g' at gz'
            have e6 : d_X6_hire R (nI v) (nI x) (nI w) = (z, pt (pt (pt (pt (pt X (25 + v) 3 A) (31 + 2 * x) 2 z) (31 + 2 * x) 1 g) (31 + 2 * w) 2 z') (31 + 2 * w) 1 g') := by
              rw [d_X6_hire]
              refine (oc_some e1).trans ((oc_some e3).trans ((oc_some e5).trans ((if_neg g1).trans ((A6 _).trans ((if_pos ⟨b1, b2, b3, b4⟩).trans ((lt_eq hS).trans ?_))))))
              rw [hX, p3, p5, y6, hA]
              have w1 : pt X (25 + v) 3 A (31 + 2 * x) 2 = M 6 (37 + x) := by rw [pt_o (by omega), p2, y6]
              have w2 : pt X (25 + v) 3 A (31 + 2 * w) 2 = M 6 (37 + w) := by rw [pt_o (by omega), p4, y6]
              rw [w1, w2, f1]
              refine (lt_eq rfl).trans ((lt_eq rfl).trans ?_)
              rw [fight_eq (o := 31 + 2 * x), w1, hz, gz, fight_eq]
              have w3 : pt (pt (pt X (25 + v) 3 A) (31 + 2 * x) 2 z) (31 + 2 * x) 1 g (31 + 2 * w) 2 = M 6 (37 + w) := by rw [pt_o (by omega), pt_o (by omega), w2]
              rw [w3, hz', gz', pt_o (by omega), pt_o (by omega), pt_o (by omega), pt_i]
            have e7 : d_X7_hire M (nI v) (nI x) (nI w) = (z, pt (pt (pt (pt (pt Y 6 (1 + v) A) 6 (37 + x) z) 6 (37 + w) z') 6 (43 + x) g) 6 (43 + w) g') := by
              rw [d_X7_hire, c0, c2, c3]
              refine (lt_eq e2.symm).trans ((if_neg n1).trans ((lt_eq e4.symm).trans ((if_neg n1).trans ((lt_eq e5'.symm).trans ((if_neg n1).trans ((if_neg g1).trans ((A7 _).trans ((if_pos ⟨b1, b2, b3, b4⟩).trans ((lt_eq hu).trans ?_)))))))))
              rw [hY, hA]
              refine (lt_eq rfl).trans ?_
              have w1 : pt Y 6 (1 + v) A 6 (37 + x) = M 6 (37 + x) := by rw [pt_o (by omega), y6]
              have w2 : pt Y 6 (1 + v) A 6 (37 + w) = M 6 (37 + w) := by rw [pt_o (by omega), y6]
              have w3 : ∀ z, pt (pt Y 6 (1 + v) A) 6 (37 + x) z 6 (37 + w) = M 6 (37 + w) := fun z => by rw [pt_o (by omega), w2]
              have w4 : pt (pt (pt Y 6 (1 + v) A) 6 (37 + x) z) 6 (37 + w) z' 6 (37 + x) = z := by rw [pt_o (by omega), pt_i]
              have w5 : pt (pt (pt Y 6 (1 + v) A) 6 (37 + x) z) 6 (37 + w) z' 6 (37 + w) = z' := by rw [pt_i]
              have ht := hire_tail (Q := pt (pt (pt Y 6 (1 + v) A) 6 (37 + x) z) 6 (37 + w) z') (a := x) (b := w) (by omega) (by omega)
              rw [w1, w2]
              by_cases g3 : M 6 (37 + w) ≤ M 6 (37 + x)
              · rw [if_pos g3] at f2
                refine (if_pos g3).trans ((lt_eq f2.symm).trans ?_)
                rw [hz]
                refine (lt_eq rfl).trans ?_
                rw [w3, hz']
                refine (lt_eq rfl).trans (ht.trans ?_)
                rw [w4, w5, hg, hg']
              · rw [if_neg g3] at f2
                refine (if_neg g3).trans ((lt_eq f2.symm).trans ?_)
                rw [hz]
                refine (lt_eq rfl).trans ?_
                rw [w3, hz']
                refine (lt_eq rfl).trans (ht.trans ?_)
                rw [w4, w5, hg, hg']
            rw [e6, e7]
            refine ⟨rfl, hI _ _ (fun q hq => by dsimp only; rw [pt_k (by omega), pt_k (by omega), pt_k (by omega), pt_k (by omega), pt_k (by omega)]) (fun q hq => by dsimp only; rw [pt_k hq, pt_k hq, pt_k hq, pt_k hq, pt_k hq]) ?_⟩
            dsimp only
            rw [shf_pt (i := 22) (n := 9 + 2 * w) (by omega), shf_pt (i := 22) (n := 9 + 2 * w) (by omega), shf_pt (i := 22) (n := 9 + 2 * x) (by omega), shf_pt (i := 22) (n := 9 + 2 * x) (by omega), shf_pt (i := 22) (n := 3 + v) (by omega), pt_eq, pt_eq, pt_eq, pt_eq, pt_eq]
            rw [upd_comm (show 37 + w ≠ 43 + x by omega)]
            have k1' := RS_ut (z := A) hT hC hn hv (Or.inr (Or.inl ⟨rfl, rfl⟩)) (RG_up1 hT hC hn.2.2.1 (fun t ht w => ⟨hs, fun q => by
                have : t = v := by omega
                rw [this, y6, b1] at q; exact absurd q n0⟩) (fun _ _ w => absurd w (by omega)) (fun _ _ w => absurd w (by omega)) (fun _ _ w => absurd w (by omega)) (fun _ _ w => absurd w (by omega)) (fun _ _ _ _ w => absurd w (by omega))) (ZR_up1 hn.2.2.2 (fun _ _ _ => hs) (fun _ _ w => absurd w (by omega)))
            have k2' := RS_uc (z := z) hT hC k1' hx (Or.inr ⟨rfl, rfl⟩) (RG_up1 hT hC k1'.2.2.1 (fun _ _ w => absurd w (by omega)) (fun _ _ w => absurd w (by omega)) (fun _ _ w => absurd w (by omega)) (fun _ _ _ => f3) (fun _ _ w => absurd w (by omega)) (fun _ _ _ _ w => absurd w (by omega)))
            have k3' := RS_uc (z := g) hT hC k2' hx (Or.inl ⟨rfl, rfl, bin_of hg⟩) (RG_up1 hT hC k2'.2.2.1 (fun _ _ w => absurd w (by omega)) (fun _ _ w => absurd w (by omega)) (fun _ _ w => absurd w (by omega)) (fun _ _ w => absurd w (by omega)) (fun _ _ w => absurd w (by omega)) (fun _ _ _ _ w => absurd w (by omega)))
            have k4' := RS_uc (z := z') hT hC k3' hw (Or.inr ⟨rfl, rfl⟩) (RG_up1 hT hC k3'.2.2.1 (fun _ _ w => absurd w (by omega)) (fun _ _ w => absurd w (by omega)) (fun _ _ w => absurd w (by omega)) (fun _ _ _ => f4) (fun _ _ w => absurd w (by omega)) (fun _ _ _ _ w => absurd w (by omega)))
            exact RS_uc (z := g') hT hC k4' hw (Or.inl ⟨rfl, rfl, bin_of hg'⟩) (RG_up1 hT hC k4'.2.2.1 (fun _ _ w => absurd w (by omega)) (fun _ _ w => absurd w (by omega)) (fun _ _ w => absurd w (by omega)) (fun _ _ w => absurd w (by omega)) (fun _ _ w => absurd w (by omega)) (fun _ _ _ _ w => absurd w (by omega)))
          · have e6 : d_X6_hire R (nI v) (nI x) (nI w) = (-2, R) := by
              rw [d_X6_hire]; exact (oc_some e1).trans ((oc_some e3).trans ((oc_some e5).trans ((if_neg g1).trans ((A6 _).trans (if_neg g2)))))
            have e7 : d_X7_hire M (nI v) (nI x) (nI w) = (-2, M) := by
              rw [d_X7_hire, c0, c2, c3]
              exact (lt_eq e2.symm).trans ((if_neg n1).trans ((lt_eq e4.symm).trans ((if_neg n1).trans ((lt_eq e5'.symm).trans ((if_neg n1).trans ((if_neg g1).trans ((A7 _).trans (if_neg g2))))))))
            rw [e6, e7]; exact ⟨rfl, h⟩
      · have e6 : d_X6_hire R (nI v) (nI x) b = (-1, R) := by rw [d_X6_hire]; exact (oc_some e1).trans ((oc_some e3).trans (oc_none e5))
        have e7 : d_X7_hire M (nI v) (nI x) b = (-1, M) := by rw [d_X7_hire]; exact (lt_eq e2.symm).trans ((if_neg n1).trans ((lt_eq e4.symm).trans ((if_neg n1).trans ((lt_eq e5'.symm).trans (if_pos rfl)))))
        rw [e6, e7]; exact ⟨rfl, h⟩
    · have e6 : d_X6_hire R (nI v) a b = (-1, R) := by rw [d_X6_hire]; exact (oc_some e1).trans ((oc_none e3).trans (by cases d_X3_crewAt (shf R 22) b <;> rfl))
      have e7 : d_X7_hire M (nI v) a b = (-1, M) := by rw [d_X7_hire]; exact (lt_eq e2.symm).trans ((if_neg n1).trans ((lt_eq e4.symm).trans (if_pos rfl)))
      rw [e6, e7]; exact ⟨rfl, h⟩
  · have e6 : d_X6_hire R t a b = (-1, R) := by rw [d_X6_hire]; exact (oc_none e1).trans (by cases d_X3_crewAt (shf R 22) a <;> cases d_X3_crewAt (shf R 22) b <;> rfl)
    have e7 : d_X7_hire M t a b = (-1, M) := by rw [d_X7_hire]; exact (lt_eq e2.symm).trans (if_pos rfl)
    rw [e6, e7]; exact ⟨rfl, h⟩
