/-! whose -/
theorem RG_to {T C : Nat} {a a' : Nat → Int32} (hT : T ≤ 6) (hC : C ≤ 3) (h : RG T C a) (e : ∀ k, k < 43 ∨ 46 ≤ k → a' k = a k) : RG T C a' := by
  refine ⟨fun t ht => ?_, fun c hc => ⟨?_, ?_, fun t ht => ?_⟩⟩
  · rw [e (1 + t) (by omega), e (25 + t) (by omega), e (7 + t) (by omega)]; exact h.1 t ht
  · rw [e (37 + c) (by omega)]; exact (h.2 c hc).1
  · rw [e (40 + c) (by omega)]; exact (h.2 c hc).2.1
  · rw [e (46 + 6 * c + t) (by omega)]; exact (h.2 c hc).2.2 t ht
theorem leave_loop {c : Nat} (hc : c < 3) : ∀ n i (r : Nat → Nat → Int32), i ≤ 3 → 3 < i + n → (∀ q j, j ≠ 0 ∨ q < 9 ∨ q % 2 = 0 → d_X3_leaveOnly_L2 (nI c) n r i q j = r q j) ∧ (∀ d, d < i → d_X3_leaveOnly_L2 (nI c) n r i (9 + 2 * d) 0 = r (9 + 2 * d) 0) ∧ ∀ d, i ≤ d → d < 3 → d_X3_leaveOnly_L2 (nI c) n r i (9 + 2 * d) 0 = if r (9 + 2 * d) 0 = 0 then 0 else if d = c then 1 else 0 := by
  intro n
  induction n with
  | zero => intro i r h1 h2; exact absurd h2 (by omega)
  | succ n ih =>
    intro i r h1 h2
    by_cases g : 3 ≤ i
    · have e : d_X3_leaveOnly_L2 (nI c) (n + 1) r i = r := by rw [d_X3_leaveOnly_L2]; exact if_pos (nI_le g (by omega))
      rw [e]; exact ⟨fun _ _ _ => rfl, fun _ _ => rfl, fun d h3 h4 => absurd h4 (by omega)⟩
    · have e : d_X3_leaveOnly_L2 (nI c) (n + 1) r i = d_X3_leaveOnly_L2 (nI c) n (pt r (9 + 2 * i) 0 (if r (9 + 2 * i) 0 = 0 then 0 else if i = c then 1 else 0)) (i + 1) := by
        rw [d_X3_leaveOnly_L2]
        refine (if_neg (nI_ge (by omega) (by omega))).trans ?_
        by_cases w1 : r (9 + 2 * i) 0 = 0
        · rw [if_pos w1, if_pos w1]
        · rw [if_neg w1, if_neg w1]
          by_cases w2 : i = c
          · rw [if_pos (by rw [w2]), if_pos w2]
          · rw [if_neg (fun z => w2 ((nI_eq (by omega) (by omega)).mp z)), if_neg w2]
      obtain ⟨g1, g2, g3⟩ := ih (i + 1) (pt r (9 + 2 * i) 0 (if r (9 + 2 * i) 0 = 0 then 0 else if i = c then 1 else 0)) (by omega) (by omega)
      rw [e]
      refine ⟨fun q j hj => by rw [g1 q j hj, pt_o (by omega)], fun d hd => by rw [g2 d (by omega), pt_o (by omega)], fun d h3 h4 => ?_⟩
      by_cases w : d = i
      · subst w; rw [g2 d (by omega), pt_i]
      · rw [g3 d (by omega) h4, pt_o (by omega)]
theorem only_loop {C c : Nat} (hC : C ≤ 3) (hc : c < 3) : ∀ n d (M : Nat → Nat → Int32), M 0 11 = nI C → d ≤ 3 → 3 < d + n → (∀ q, q ≠ 8 → d_X7_whose_L62 c n M d q = M q) ∧ (∀ k, k < 43 + d ∨ 43 + C ≤ k → d_X7_whose_L62 c n M d 8 k = M 8 k) ∧ ∀ j, d ≤ j → j < C → d_X7_whose_L62 c n M d 8 (43 + j) = if j = c then 0 else 1 := by
  intro n
  induction n with
  | zero => intro d M _ h1 h2; exact absurd h2 (by omega)
  | succ n ih =>
    intro d M c1 h1 h2
    by_cases g : C ≤ d
    · have e : d_X7_whose_L62 c (n + 1) M d = M := by rw [d_X7_whose_L62, c1]; exact if_pos (nI_le g (by omega))
      rw [e]; exact ⟨fun _ _ => rfl, fun _ _ => rfl, fun j h3 h4 => absurd h4 (by omega)⟩
    · have e : d_X7_whose_L62 c (n + 1) M d = d_X7_whose_L62 c n (pt M 8 (43 + d) (if d = c then 0 else 1)) (d + 1) := by
        rw [d_X7_whose_L62, c1]
        refine (if_neg (nI_ge (by omega) (by omega))).trans ?_
        by_cases w2 : d = c
        · rw [if_pos (by rw [w2]), if_pos w2]
        · rw [if_neg (fun z => w2 ((nI_eq (by omega) (by omega)).mp z)), if_neg w2]
      obtain ⟨g1, g2, g3⟩ := ih (d + 1) (pt M 8 (43 + d) (if d = c then 0 else 1)) (by rw [pt_k (by decide)]; exact c1) (by omega) (by omega)
      rw [e]
      refine ⟨fun q hq => by rw [g1 q hq, pt_k hq], fun k hk => by rw [g2 k (by omega), pt_o (by omega)], fun j h3 h4 => ?_⟩
      by_cases w : j = d
      · subst w; rw [g2 (43 + j) (by omega), pt_i]
      · rw [g3 j (by omega) h4]
theorem whose_spr {T C N : Nat} {R0 R M0 : Nat → Nat → Int32} (hT : T ≤ 6) (hC : C ≤ 3) (t1 : M0 0 10 = nI T) (c1 : M0 0 11 = nI C) (hN : N < 2 ^ 31) : ∀ (n k : Nat) (M : Nat → Nat → Int32), k ≤ N → N < k + n → TR R0 R M0 M → (∀ q, q ≠ 8 → d_X7_whose_L102 (nI N) n M k q = M q) ∧ d_X7_whose_L102 (nI N) n M k 8 = itA (M0 5) T C (M0 0 12) (N - k) (M 8) := by
  intro n
  induction n with
  | zero => intro k M h1 h2; exact absurd h2 (by omega)
  | succ n ih =>
    intro k M h1 h2 h
    by_cases g : N ≤ k
    · have e : d_X7_whose_L102 (nI N) (n + 1) M k = M := by rw [d_X7_whose_L102]; exact if_pos (nI_le g (by omega))
      rw [e, show N - k = 0 by omega]; exact ⟨fun _ _ => rfl, rfl⟩
    · have hs := tr_spr hT hC t1 c1 h
      have e : d_X7_whose_L102 (nI N) (n + 1) M k = d_X7_whose_L102 (nI N) n (spl M 8 1 (d_X7_spring (shf M 0) (shf M 5) (shf M 8))) (k + 1) := by rw [d_X7_whose_L102]; exact (if_neg (nI_ge (by omega) (by omega))).trans (lt_eq rfl)
      generalize hw : spl M 8 1 (d_X7_spring (shf M 0) (shf M 5) (shf M 8)) = w at hs e
      have ew : ∀ q, q ≠ 8 → w q = M q := fun q hq => by rw [← hw, spl_out (by omega)]
      obtain ⟨g1, g2⟩ := ih (k + 1) w (by omega) (by omega) (h.m8 ew)
      rw [e]
      refine ⟨fun q hq => by rw [g1 q hq, ew q hq], ?_⟩
      rw [g2, show N - k = (N - (k + 1)) + 1 by omega, hs]; rfl
/-- one crew alone, on both sides -/
theorem paid_pair {T C v c N : Nat} {R0 R M0 M : Nat → Nat → Int32} (hT : T ≤ 6) (hC : C ≤ 3) (t1 : M0 0 10 = nI T) (c1 : M0 0 11 = nI C) (hk : rg 30 (M0 0 12)) (hlaid : RS T C (M0 5) (M0 0 12) (shf R0 4) (M0 7)) (hg : ∀ c, c < C → M0 7 (43 + c) = 0) (hv : v < T) (hc : c < C) (hN : N ≤ 20) (h : TR R0 R M0 M) : ∃ x R' M', d_X6_paidToOnly R (nI c) (nI v) (nI N) = (x, R') ∧ d_X7_whose_L102 (nI N) 21 (d_X7_whose_L62 c 4 (spl M 8 1 (d_X7_copy (shf M 7) (shf M 8) 64 64 0 0)) 0) 0 = M' ∧ M' 8 (31 + v) = x ∧ TR R0 R' M0 M' := by
  obtain ⟨a1, a2⟩ := tr_copy hT hC h (Or.inr ⟨rfl, rfl⟩) hlaid
  have a3 := tr_copy2 hT h (Or.inr ⟨rfl, rfl⟩) hlaid
  have e6 : d_X6_paidToOnly R (nI c) (nI v) (nI N) = lt (d_X3_goBy (shf (spl (spl R 40 15 (d_X3_copy (shf R 40) (shf R 4))) 40 15 (d_X3_leaveOnly (shf (spl R 40 15 (d_X3_copy (shf R 40) (shf R 4))) 40) (nI c))) 40) (nI N)) fun u13 => oc (d_X3_townAt (shf (spl (spl (spl R 40 15 (d_X3_copy (shf R 40) (shf R 4))) 40 15 (d_X3_leaveOnly (shf (spl R 40 15 (d_X3_copy (shf R 40) (shf R 4))) 40) (nI c))) 40 15 u13) 40) (nI v)) ((0 : Int32), spl (spl (spl R 40 15 (d_X3_copy (shf R 40) (shf R 4))) 40 15 (d_X3_leaveOnly (shf (spl R 40 15 (d_X3_copy (shf R 40) (shf R 4))) 40) (nI c))) 40 15 u13) fun k24 => (spl (spl (spl R 40 15 (d_X3_copy (shf R 40) (shf R 4))) 40 15 (d_X3_leaveOnly (shf (spl R 40 15 (d_X3_copy (shf R 40) (shf R 4))) 40) (nI c))) 40 15 u13 (43 + k24) 7, spl (spl (spl R 40 15 (d_X3_copy (shf R 40) (shf R 4))) 40 15 (d_X3_leaveOnly (shf (spl R 40 15 (d_X3_copy (shf R 40) (shf R 4))) 40) (nI c))) 40 15 u13) := by
    rw [d_X6_paidToOnly]; exact (lt_eq rfl).trans (lt_eq rfl)
  generalize spl R 40 15 (d_X3_copy (shf R 40) (shf R 4)) = X at a1 a2 a3 e6
  generalize spl M 8 1 (d_X7_copy (shf M 7) (shf M 8) 64 64 0 0) = Y at a1 a2
  have el : d_X3_leaveOnly (shf X 40) (nI c) = d_X3_leaveOnly_L2 (nI c) 4 (shf X 40) 0 := by rw [d_X3_leaveOnly]; exact lt_eq rfl
  obtain ⟨l1, -, l3⟩ := leave_loop (show c < 3 by omega) 4 0 (shf X 40) (by decide) (by decide)
  rw [← el] at l1 l3
  generalize d_X3_leaveOnly (shf X 40) (nI c) = L at l1 l3 e6
  obtain ⟨o1, o2, o3⟩ := only_loop hC (show c < 3 by omega) 4 0 Y ((a1.2.2.1 11 (by decide)).trans c1) (by decide) (by decide)
  generalize d_X7_whose_L62 c 4 Y 0 = Z at o1 o2 o3
  have go0 : ∀ d, d < C → shf X 40 (9 + 2 * d) 1 = 0 := fun d hd => by rw [(RS_C hC a3 hd).2]; exact hg d hd
  have rv : RV T (M0 5) (M0 0 12) (fun d => L (9 + 2 * d) 0) (fun d => L (9 + 2 * d) 1) (fun d => Z 8 (43 + d)) (fun d => d < C) z0 L (Z 8) := by
    obtain ⟨⟨go, ⟨w1, w2, w3, w4, w5, w6, w7⟩, w8⟩, -⟩ := a2
    refine ⟨fun t ht => ?_, fun t ht => ?_, fun d hd => ⟨rfl, rfl, rfl⟩, fun d hd hK => ?_, fun d hd => ?_, ?_, ?_⟩
    · rw [l1 (3 + t) 0 (by omega)]; exact w1 t ht
    · unfold RT
      rw [l1 (3 + t) 1 (by omega), l1 (3 + t) 2 (by omega), l1 (3 + t) 3 (by omega), l1 (3 + t) 4 (by omega), l1 (3 + t) 5 (by omega), l1 (3 + t) 6 (by omega), l1 (3 + t) 7 (by omega), o2 (25 + t) (by omega), o2 (1 + t) (by omega), o2 (7 + t) (by omega), o2 (13 + t) (by omega), o2 (19 + t) (by omega), o2 (31 + t) (by omega)]
      exact w2 t ht
    · unfold RC
      rw [l1 (9 + 2 * d) 2 (by omega), l1 (9 + 2 * d) 3 (by omega), o2 (37 + d) (by omega), o2 (40 + d) (by omega)]
      exact ⟨(w4 d hd hK).1, (w4 d hd hK).2.1, fun t ht => by rw [l1 (10 + 2 * d) t (by omega), o2 (46 + 6 * d + t) (by omega)]; exact (w4 d hd hK).2.2 t ht⟩
    · rw [l1 (9 + 2 * d) 4 (by omega)]; exact w5 d hd
    · rw [l1 0 2 (by omega)]; exact w6
    · rw [l1 0 3 (by omega), o2 0 (by omega)]; exact w7
  have hRG : RG T C (Z 8) := RG_to hT hC a2.2.2.1 (fun k hk => o2 k (by omega))
  have n1 : ¬ (1 : Int32) = 0 := by decide
  have hsa : ∀ d, d < 3 → ((¬ L (9 + 2 * d) 0 = 0 ∧ L (9 + 2 * d) 1 = 0) ↔ (d < C ∧ Z 8 (43 + d) = 0)) := by
    intro d hd
    rw [l3 d (Nat.zero_le _) hd]
    by_cases g : d < C
    · have th : ¬ shf X 40 (9 + 2 * d) 0 = 0 := fun w => ((RS_c a2 d hd).mp w) g
      rw [if_neg th, l1 (9 + 2 * d) 1 (by omega), go0 d g, o3 d (Nat.zero_le _) g]
      by_cases w : d = c
      · rw [if_pos w, if_pos w]; exact ⟨fun _ => ⟨g, rfl⟩, fun _ => ⟨n1, rfl⟩⟩
      · rw [if_neg w, if_neg w]; exact ⟨fun z => absurd rfl z.1, fun z => absurd z.2 n1⟩
    · rw [if_pos ((RS_c a2 d hd).mpr g)]
      exact ⟨fun z => absurd rfl z.1, fun z => absurd z.1 g⟩
  have rv' : RV T (M0 5) (M0 0 12) (fun d => L (9 + 2 * d) 0) (fun d => L (9 + 2 * d) 1) (fun d => Z 8 (43 + d)) (fun d => d < C) z0 (shf (spl X 40 15 L) 40) (Z 8) := RV_to hT rv (fun k hk => by
    show spl X 40 15 L (40 + k) = L k
    rw [spl_in (by omega), show 40 + k - 40 = k by omega])
  have g := goBy_sim hT hC hsa (fun d hd _ => hd) (fun d hd => rfl) hk (N := N) (by omega) hRG rv'
  have b1 : TR R0 X M0 Z := a1.m8 o1
  obtain ⟨s1, s2⟩ := whose_spr hT hC t1 c1 (N := N) (by omega) 21 0 Z (by omega) (by omega) b1
  rw [Nat.sub_zero] at s2
  rw [← s2] at g
  generalize d_X7_whose_L102 (nI N) 21 Z 0 = M' at s1 s2 g
  have e6' := e6.trans (lt_eq rfl)
  generalize d_X3_goBy (shf (spl X 40 15 L) 40) (nI N) = G at g e6'
  have g' : RV T (M0 5) (M0 0 12) (fun d => L (9 + 2 * d) 0) (fun d => L (9 + 2 * d) 1) (fun d => Z 8 (43 + d)) (fun d => d < C) z0 (shf (spl (spl X 40 15 L) 40 15 G) 40) (M' 8) := RV_to hT g (fun k hk => by
    show spl (spl X 40 15 L) 40 15 G (40 + k) = G k
    rw [spl_in (by omega), show 40 + k - 40 = k by omega])
  have ta : d_X3_townAt (shf (spl (spl X 40 15 L) 40 15 G) 40) (nI v) = some v := by
    unfold d_X3_townAt
    rw [if_neg (nI_pos (by omega)), if_neg (nI_ge (by omega) (by omega)), nI_clamp (by omega), if_neg (fun z => ((g'.1 v (by omega)).mp z) hv)]
  have out : ∀ q, ¬ (40 ≤ q ∧ q < 55) → spl (spl X 40 15 L) 40 15 G q = X q := fun q hq => by rw [spl_out (by omega), spl_out (by omega)]
  generalize spl (spl X 40 15 L) 40 15 G = W at g' ta out e6'
  have e6'' := e6'.trans (oc_some ta)
  refine ⟨_, W, M', e6'', rfl, ?_, fun q a b => by rw [out q a, a1.1 q a b], fun q a b d e => by rw [s1 q b, b1.2.1 q a b d e], fun j hj => by rw [s1 0 (by decide), b1.2.2.1 j hj], fun d hd => ?_⟩
  · have z := (g'.2.1 v hv).2.2.2.2.2.2
    have e : shf W 40 (3 + v) = W (43 + v) := by show W (40 + (3 + v)) = _; rw [show 40 + (3 + v) = 43 + v by omega]
    rw [e] at z; exact z.symm
  · exact g'.2.2.2.2.1 d hd
theorem whose_loop {T C v N : Nat} {x : Int32} {R0 M0 : Nat → Nat → Int32} (hT : T ≤ 6) (hC : C ≤ 3) (t1 : M0 0 10 = nI T) (c1 : M0 0 11 = nI C) (hk : rg 30 (M0 0 12)) (hlaid : RS T C (M0 5) (M0 0 12) (shf R0 4) (M0 7)) (hg : ∀ c, c < C → M0 7 (43 + c) = 0) (hv : v < T) (hN : N ≤ 20) : ∀ n c R M bits, c ≤ 3 → 3 < c + n → TR R0 R M0 M → ∃ R' M' b, d_X6_whose_L41 (nI v) (nI N) x n R bits c = (R', b) ∧ d_X7_whose_L37 (nI v) (nI N) x n M bits c = (M', b) ∧ TR R0 R' M0 M' := by
  intro n
  induction n with
  | zero => intro c R M bits h1 h2; exact absurd h2 (by omega)
  | succ n ih =>
    intro c R M bits h1 h2 h
    have c11 : M 0 11 = nI C := (h.2.2.1 11 (by decide)).trans c1
    have hl4 : RS T C (M0 5) (M0 0 12) (shf R 4) (M0 7) := RS_to hT hlaid (fun k hk => h.1 (4 + k) (by omega) (by omega))
    have cv : (nI v).toNatClampNeg = v := nI_clamp (by omega)
    by_cases g : C ≤ c
    · have e7 : ∀ m c', C ≤ c' → c' ≤ 3 → d_X7_whose_L37 (nI v) (nI N) x m M bits c' = (M, bits) := fun m c' hc hc3 => by
        cases m with
        | zero => rfl
        | succ m => rw [d_X7_whose_L37, c11]; exact if_pos (nI_le hc (by omega))
      by_cases g3 : 3 ≤ c
      · exact ⟨R, M, bits, by rw [d_X6_whose_L41]; exact if_pos (nI_le (a := 3) g3 (by omega)), e7 _ _ g h1, h⟩
      · have ca : d_X3_crewAt (shf R 4) (nI c) = none := by
          unfold d_X3_crewAt
          rw [if_neg (nI_pos (by omega)), if_neg (nI_ge (by omega) (by omega)), nI_clamp (by omega), if_pos ((RS_c hl4 c (by omega)).mpr (by omega))]
        have e6 : d_X6_whose_L41 (nI v) (nI N) x (n + 1) R bits c = d_X6_whose_L41 (nI v) (nI N) x n R bits (c + 1) := by
          rw [d_X6_whose_L41]; exact (if_neg (nI_ge (b := 3) (by omega) (by decide))).trans (oc_none ca)
        obtain ⟨R', M', b, y1, y2, y3⟩ := ih (c + 1) R M bits (by omega) (by omega) h
        rw [e7 n (c + 1) (by omega) (by omega)] at y2
        exact ⟨R', M', b, by rw [e6, y1], by rw [e7 (n + 1) c g h1]; exact y2, y3⟩
    · have ca : d_X3_crewAt (shf R 4) (nI c) = some c := by
        unfold d_X3_crewAt
        rw [if_neg (nI_pos (by omega)), if_neg (nI_ge (by omega) (by omega)), nI_clamp (by omega), if_neg (fun z => ((RS_c hl4 c (by omega)).mp z) (by omega))]
      obtain ⟨y, R2, M2, p1, p2, p3, p4⟩ := paid_pair hT hC t1 c1 hk hlaid hg hv (show c < C by omega) hN h
      have e6 : d_X6_whose_L41 (nI v) (nI N) x (n + 1) R bits c = if y = x then d_X6_whose_L41 (nI v) (nI N) x n R2 (bits ||| ((1 : Int32) <<< ((nI c) &&& 31))) (c + 1) else d_X6_whose_L41 (nI v) (nI N) x n R2 bits (c + 1) := by
        rw [d_X6_whose_L41]; exact (if_neg (nI_ge (b := 3) (by omega) (by decide))).trans ((oc_some ca).trans (lt_eq p1.symm))
      have e7 : d_X7_whose_L37 (nI v) (nI N) x (n + 1) M bits c = if y = x then d_X7_whose_L37 (nI v) (nI N) x n M2 (bits ||| ((1 : Int32) <<< ((nI c) &&& 31))) (c + 1) else d_X7_whose_L37 (nI v) (nI N) x n M2 bits (c + 1) := by
        rw [d_X7_whose_L37, c11, cv]
        refine (if_neg (nI_ge (by omega) (by omega))).trans ((lt_eq rfl).trans ((lt_eq rfl).trans ((lt_eq p2.symm).trans ?_)))
        rw [p3, Int32.or_zero]
      by_cases w : y = x
      · rw [if_pos w] at e6 e7
        obtain ⟨R', M', b, y1, y2, y3⟩ := ih (c + 1) R2 M2 (bits ||| ((1 : Int32) <<< ((nI c) &&& 31))) (by omega) (by omega) p4
        exact ⟨R', M', b, by rw [e6, y1], by rw [e7, y2], y3⟩
      · rw [if_neg w] at e6 e7
        obtain ⟨R', M', b, y1, y2, y3⟩ := ih (c + 1) R2 M2 bits (by omega) (by omega) p4
        exact ⟨R', M', b, by rw [e6, y1], by rw [e7, y2], y3⟩
theorem s_whose {R M : Nat → Nat → Int32} {t spring n : Int32} (h : Inv R M) : (d_X6_whose R t spring n).1 = (d_X7_whose M t spring n).1 ∧ Inv (d_X6_whose R t spring n).2 (d_X7_whose M t spring n).2 := by
  have h' := h
  obtain ⟨T, C, hT, hC, t1, c1, k1, -, -, ⟨hlaid, hg, -⟩, -⟩ := h'
  have n1 : ¬ (1 : Int32) = 0 := by decide
  rcases town_cases (Q := shf M 0) (t := t) hT t1 (RS_t hlaid) with ⟨v, hv, rfl, e1, e2⟩ | ⟨e1, e2⟩
  · by_cases g : spring < 1 ∨ 20 < spring
    · have e7 : d_X7_whose M (nI v) spring n = (-1, M) := by rw [d_X7_whose]; exact (lt_eq e2.symm).trans ((if_neg n1).trans ((lt_eq (y := 0) (by rw [in_eq, if_pos g])).trans (if_pos rfl)))
      have e6 : d_X6_whose R (nI v) spring n = (-1, R) := by
        rw [d_X6_whose]
        refine (oc_some e1).trans ?_
        by_cases g2 : spring < 1
        · exact if_pos g2
        · exact (if_neg g2).trans (if_pos (g.resolve_left g2))
      rw [e6, e7]; exact ⟨rfl, h⟩
    · obtain ⟨N, hN, rfl⟩ := rg_in (N := 20) (fun w => g (Or.inl (Int32.lt_trans w (by decide)))) (fun w => g (Or.inr w)) (by decide)
      have i1 : d_X7_in (nI N) 1 20 = 1 := by rw [in_eq, if_neg g]
      by_cases g3 : n < 0 ∨ 9999 < n
      · have e7 : d_X7_whose M (nI v) (nI N) n = (-1, M) := by rw [d_X7_whose]; exact (lt_eq e2.symm).trans ((if_neg n1).trans ((lt_eq i1.symm).trans ((if_neg n1).trans ((lt_eq (y := 0) (by rw [in_eq, if_pos g3])).trans (if_pos rfl)))))
        have e6 : d_X6_whose R (nI v) (nI N) n = (-1, R) := by
          rw [d_X6_whose]
          refine (oc_some e1).trans ((if_neg (fun w => g (Or.inl w))).trans ((if_neg (fun w => g (Or.inr w))).trans ?_))
          by_cases g2 : n < 0
          · exact if_pos g2
          · exact (if_neg g2).trans (if_neg (Int32.not_le.mpr (g3.resolve_left g2)))
        rw [e6, e7]; exact ⟨rfl, h⟩
      · obtain ⟨R', M', b, y1, y2, y3⟩ := whose_loop (x := n) hT hC t1 c1 k1 hlaid hg hv hN 4 0 R M 0 (by decide) (by decide) (TR.start h)
        have e6 : d_X6_whose R (nI v) (nI N) n = (b, R') := by
          rw [d_X6_whose, y1]
          exact (oc_some e1).trans ((if_neg (fun w => g (Or.inl w))).trans ((if_neg (fun w => g (Or.inr w))).trans ((if_neg (fun w => g3 (Or.inl w))).trans ((if_pos (Int32.not_lt.mp (fun w => g3 (Or.inr w)))).trans (lt_eq rfl)))))
        have e7 : d_X7_whose M (nI v) (nI N) n = (b, M') := by
          rw [d_X7_whose, y2]
          exact (lt_eq e2.symm).trans ((if_neg n1).trans ((lt_eq i1.symm).trans ((if_neg n1).trans ((lt_eq (y := 1) (by rw [in_eq, if_neg g3])).trans ((if_neg n1).trans (lt_eq rfl))))))
        rw [e6, e7]; exact ⟨rfl, y3.inv h⟩
  · have e6 : d_X6_whose R t spring n = (-1, R) := by rw [d_X6_whose]; exact oc_none e1
    have e7 : d_X7_whose M t spring n = (-1, M) := by rw [d_X7_whose]; exact (lt_eq e2.symm).trans (if_pos rfl)
    rw [e6, e7]; exact ⟨rfl, h⟩
