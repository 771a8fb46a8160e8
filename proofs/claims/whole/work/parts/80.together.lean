/-! together -/
def Us (G : Nat → Nat) : Nat → Nat → Nat
  | _, 0 => 0
  | i, n + 1 => G i + Us G (i + 1) n
theorem Us_0 {G : Nat → Nat} : ∀ n i, (∀ j, i ≤ j → G j = 0) → Us G i n = 0 := by
  intro n
  induction n with
  | zero => intro i _; rfl
  | succ n ih => intro i h; rw [Us, h i (Nat.le_refl _), ih (i + 1) (fun j hj => h j (by omega))]
theorem us3 {G : Nat → Nat} : Us G 0 3 = G 0 + (G 1 + (G 2 + 0)) := rfl
theorem us6 {G : Nat → Nat} : Us G 0 6 = G 0 + (G 1 + (G 2 + (G 3 + (G 4 + (G 5 + 0))))) := rfl
def FF (T C : Nat) (kd a : Nat → Int32) (c t : Nat) : Nat := if c < C ∧ t < T ∧ a (43 + c) = 0 ∧ a (25 + t) = 0 then (askA kd a c t).toNatClampNeg else 0
def GG (T : Nat) (a : Nat → Int32) (t : Nat) : Nat := if t < T ∧ a (25 + t) = 0 then (a (1 + t)).toNatClampNeg else 0
theorem FF_c {T C c t : Nat} {kd a : Nat → Int32} (h : C ≤ c) : FF T C kd a c t = 0 := if_neg (fun z => absurd z.1 (by omega))
theorem FF_t {T C c t : Nat} {kd a : Nat → Int32} (h : T ≤ t) : FF T C kd a c t = 0 := if_neg (fun z => absurd z.2.1 (by omega))
theorem FF_b {T C c t : Nat} {kd a : Nat → Int32} (h : ¬ a (25 + t) = 0) : FF T C kd a c t = 0 := if_neg (fun z => h z.2.2.2)
theorem GG_t {T t : Nat} {a : Nat → Int32} (h : T ≤ t) : GG T a t = 0 := if_neg (fun z => absurd z.1 (by omega))
theorem FF_le {T C : Nat} {kd a : Nat → Int32} (h : RG T C a) (c t : Nat) : FF T C kd a c t ≤ 999 := by
  unfold FF
  by_cases g : c < C ∧ t < T ∧ a (43 + c) = 0 ∧ a (25 + t) = 0
  · rw [if_pos g]; exact (nn_rg (askA_rg h g.2.1 g.1) (by decide)).2
  · rw [if_neg g]; exact Nat.zero_le _
theorem GG_le {T C : Nat} {a : Nat → Int32} (h : RG T C a) (t : Nat) : GG T a t ≤ 999 := by
  unfold GG
  by_cases g : t < T ∧ a (25 + t) = 0
  · rw [if_pos g]; exact (nn_rg (h.1 t g.1).1 (by decide)).2
  · rw [if_neg g]; exact Nat.zero_le _
theorem stands_r {T C i : Nat} {kd : Nat → Int32} {cost : Int32} {r : Nat → Nat → Int32} {a : Nat → Int32} (h : RS T C kd cost r a) (hi : i < 6) : d_X5_stands (shf r (3 + i)) = if i < T ∧ a (25 + i) = 0 then 1 else 0 := by
  rw [stands_eq]
  show (if ¬ r (3 + i) 0 = 0 ∧ r (3 + i) 1 = 0 then (1 : Int32) else 0) = _
  by_cases g : i < T
  · have e : r (3 + i) 1 = a (25 + i) := (RS_T h g).1
    rw [e]
    by_cases g2 : a (25 + i) = 0
    · rw [if_pos ⟨fun z => ((RS_t h i hi).mp z) g, g2⟩, if_pos ⟨g, g2⟩]
    · rw [if_neg (fun z => g2 z.2), if_neg (fun z => g2 z.2)]
  · rw [if_neg (fun z => z.1 ((RS_t h i hi).mpr g)), if_neg (fun z => g z.1)]
theorem sails_r {T C c : Nat} {kd : Nat → Int32} {cost : Int32} {r : Nat → Nat → Int32} {a : Nat → Int32} (hC : C ≤ 3) (h : RS T C kd cost r a) (hc : c < 3) : d_X0_sails (shf r (9 + 2 * c)) = if c < C ∧ a (43 + c) = 0 then 1 else 0 := by
  rw [d_X0_sails]
  show (if r (9 + 2 * c) 0 = 0 then (0 : Int32) else if r (9 + 2 * c) 1 = 0 then 1 else 0) = _
  by_cases g : c < C
  · have e : r (9 + 2 * c) 1 = a (43 + c) := (RS_C hC h g).2
    rw [if_neg (fun z => ((RS_c h c hc).mp z) g), e]
    by_cases g2 : a (43 + c) = 0
    · rw [if_pos g2, if_pos ⟨g, g2⟩]
    · rw [if_neg g2, if_neg (fun z => g2 z.2)]
  · rw [if_pos ((RS_c h c hc).mpr g), if_neg (fun z => g z.1)]
theorem sil_sum {T C : Nat} {kd : Nat → Int32} {cost : Int32} {r : Nat → Nat → Int32} {a : Nat → Int32} (hT : T ≤ 6) (h : RS T C kd cost r a) : ∀ n i m, i ≤ 6 → 6 < i + n → d_X3_silverOfAll_L4 r n (nI m) i = nI (m + Us (GG T a) i (6 - i)) := by
  intro n
  induction n with
  | zero => intro i m h1 h2; exact absurd h2 (by omega)
  | succ n ih =>
    intro i m h1 h2
    by_cases g : 6 ≤ i
    · rw [d_X3_silverOfAll_L4, show 6 - i = 0 by omega]
      exact if_pos (nI_le g (by omega))
    · have e := stands_r h (show i < 6 by omega)
      rw [show 6 - i = (6 - (i + 1)) + 1 by omega, Us, d_X3_silverOfAll_L4]
      refine (if_neg (nI_ge (by omega) (by omega))).trans ((lt_eq e.symm).trans ?_)
      by_cases g2 : i < T ∧ a (25 + i) = 0
      · have q : r (3 + i) 3 = a (1 + i) := (RS_T h g2.1).2.2.1
        have eg : a (1 + i) = nI (GG T a i) := by unfold GG; rw [if_pos g2]; exact (nn_rg (h.2.2.1.1 i g2.1).1 (by decide)).1
        rw [if_pos g2, if_neg (by decide), q, eg, nI_add, ih (i + 1) _ (by omega) (by omega), Nat.add_assoc]
      · have eg : GG T a i = 0 := by unfold GG; rw [if_neg g2]
        rw [if_neg g2, if_pos rfl, eg, ih (i + 1) _ (by omega) (by omega), Nat.zero_add]
theorem ask_in {T C c : Nat} {kd : Nat → Int32} {cost : Int32} {r : Nat → Nat → Int32} {a : Nat → Int32} (hT : T ≤ 6) (hC : C ≤ 3) (h : RS T C kd cost r a) (hc : c < 3) : ∀ n i m, i ≤ 6 → 6 < i + n → d_X3_askedOfAll_L15 r c n (nI m) i = nI (m + Us (FF T C kd a c) i (6 - i)) := by
  intro n
  induction n with
  | zero => intro i m h1 h2; exact absurd h2 (by omega)
  | succ n ih =>
    intro i m h1 h2
    by_cases g : 6 ≤ i
    · rw [d_X3_askedOfAll_L15, show 6 - i = 0 by omega]
      exact if_pos (nI_le g (by omega))
    · have e := stands_r h (show i < 6 by omega)
      have e' := sails_r hC h hc
      have n1 : ¬ (1 : Int32) = 0 := by decide
      rw [show 6 - i = (6 - (i + 1)) + 1 by omega, Us, d_X3_askedOfAll_L15]
      refine (if_neg (nI_ge (by omega) (by omega))).trans ((lt_eq e'.symm).trans ?_)
      by_cases g1 : c < C ∧ a (43 + c) = 0
      · rw [if_pos g1, if_neg n1]
        refine (lt_eq e.symm).trans ?_
        by_cases g2 : i < T ∧ a (25 + i) = 0
        · rw [if_pos g2, if_neg n1]
          have hA : d_X0_wouldAsk (shf r (9 + 2 * c)) (shf r (3 + i)) (nI i) = askA kd a c i := by
            obtain ⟨⟨go, hRV, -⟩, -⟩ := h
            exact ask_sim hT hRV g2.1 hc g1.1
          have eg : askA kd a c i = nI (FF T C kd a c i) := by unfold FF; rw [if_pos ⟨g1.1, g2.1, g1.2, g2.2⟩]; exact (nn_rg (askA_rg h.2.2.1 g2.1 g1.1) (by decide)).1
          refine (lt_eq (hA.trans eg).symm).trans ?_
          rw [nI_add, ih (i + 1) _ (by omega) (by omega), Nat.add_assoc]
        · have eg : FF T C kd a c i = 0 := by unfold FF; rw [if_neg (fun z => g2 ⟨z.2.1, z.2.2.2⟩)]
          rw [if_neg g2, if_pos rfl, eg, ih (i + 1) _ (by omega) (by omega), Nat.zero_add]
      · have eg : FF T C kd a c i = 0 := by unfold FF; rw [if_neg (fun z => g1 ⟨z.1, z.2.2.1⟩)]
        rw [if_neg g1, if_pos rfl, eg, ih (i + 1) _ (by omega) (by omega), Nat.zero_add]
theorem ask_out {T C : Nat} {kd : Nat → Int32} {cost : Int32} {r : Nat → Nat → Int32} {a : Nat → Int32} (hT : T ≤ 6) (hC : C ≤ 3) (h : RS T C kd cost r a) : ∀ n c m, c ≤ 3 → 3 < c + n → d_X3_askedOfAll_L4 r n (nI m) c = nI (m + Us (fun c => Us (FF T C kd a c) 0 6) c (3 - c)) := by
  intro n
  induction n with
  | zero => intro c m h1 h2; exact absurd h2 (by omega)
  | succ n ih =>
    intro c m h1 h2
    by_cases g : 3 ≤ c
    · rw [d_X3_askedOfAll_L4, show 3 - c = 0 by omega]
      exact if_pos (nI_le g (by omega))
    · rw [show 3 - c = (3 - (c + 1)) + 1 by omega, Us, d_X3_askedOfAll_L4]
      refine (if_neg (nI_ge (by omega) (by omega))).trans ((lt_eq (ask_in hT hC h (show c < 3 by omega) 7 0 m (by decide) (by decide)).symm).trans ?_)
      rw [ih (c + 1) _ (by omega) (by omega), Nat.add_assoc]
theorem tog_in {T C u : Nat} {M : Nat → Nat → Int32} (hC : C ≤ 3) (c1 : M 0 11 = nI C) (hR : RG T C (M 6)) (hb : ∀ c, c < C → M 6 (43 + c) = 0 ∨ M 6 (43 + c) = 1) (hu : u < T) (hT : T ≤ 6) (hu0 : M 6 (25 + u) = 0) : ∀ n c m, c ≤ 3 → 3 < c + n → d_X7_together_L64 M u n (nI m) c = nI (m + Us (fun c => FF T C (M 5) (M 6) c u) c (3 - c)) := by
  intro n
  induction n with
  | zero => intro c m h1 h2; exact absurd h2 (by omega)
  | succ n ih =>
    intro c m h1 h2
    by_cases g : C ≤ c
    · have z0 : Us (fun c => FF T C (M 5) (M 6) c u) c (3 - c) = 0 := Us_0 _ _ (fun j hj => FF_c (by omega))
      rw [d_X7_together_L64, c1, z0]
      exact if_pos (nI_le g (by omega))
    · rw [show 3 - c = (3 - (c + 1)) + 1 by omega, Us, d_X7_together_L64, c1]
      refine (if_neg (nI_ge (by omega) (by omega))).trans ?_
      by_cases g2 : M 6 (43 + c) = 0
      · rw [if_pos g2]
        have hB : d_X7_askOf (shf M 0) (shf M 5) (shf M 6) (nI c) (nI u) = askA (M 5) (M 6) c u := by
          rw [askOf_eq (by omega), nI_clamp (by omega)]; rfl
        have eg : askA (M 5) (M 6) c u = nI (FF T C (M 5) (M 6) c u) := by unfold FF; rw [if_pos ⟨by omega, hu, g2, hu0⟩]; exact (nn_rg (askA_rg hR hu (by omega)) (by decide)).1
        refine (lt_eq (hB.trans eg).symm).trans ?_
        rw [nI_add, ih (c + 1) _ (by omega) (by omega), Nat.add_assoc]
      · have eg : FF T C (M 5) (M 6) c u = 0 := by unfold FF; rw [if_neg (fun z => g2 z.2.2.1)]
        rw [if_neg g2, eg, Nat.zero_add, Int32.add_zero, ih (c + 1) _ (by omega) (by omega)]
theorem tog_out {T C : Nat} {M : Nat → Nat → Int32} (hT : T ≤ 6) (hC : C ≤ 3) (t1 : M 0 10 = nI T) (c1 : M 0 11 = nI C) (hR : RG T C (M 6)) (hb : ∀ c, c < C → M 6 (43 + c) = 0 ∨ M 6 (43 + c) = 1) : ∀ n u m s, u ≤ 6 → 6 < u + n → m ≤ 999 * u → d_X7_together_L27 M n (nI m) (nI s) u = (nI (m + Us (GG T (M 6)) u (6 - u)), nI (s + Us (fun u => Us (fun c => FF T C (M 5) (M 6) c u) 0 3) u (6 - u))) := by
  intro n
  induction n with
  | zero => intro u m s h1 h2; exact absurd h2 (by omega)
  | succ n ih =>
    intro u m s h1 h2 hm
    by_cases g : T ≤ u
    · have z0 : Us (GG T (M 6)) u (6 - u) = 0 := Us_0 _ _ (fun j hj => GG_t (by omega))
      have z1 : Us (fun u => Us (fun c => FF T C (M 5) (M 6) c u) 0 3) u (6 - u) = 0 := Us_0 _ _ (fun j hj => Us_0 _ _ (fun i _ => FF_t (by omega)))
      rw [d_X7_together_L27, t1, z0, z1]
      exact if_pos (nI_le g (by omega))
    · rw [show 6 - u = (6 - (u + 1)) + 1 by omega, Us, Us, d_X7_together_L27, t1]
      refine (if_neg (nI_ge (by omega) (by omega))).trans ?_
      by_cases g2 : M 6 (25 + u) = 0
      · rw [if_pos g2]
        refine (lt_eq (tog_in hC c1 hR hb (show u < T by omega) hT g2 4 0 s (by decide) (by decide)).symm).trans ?_
        have eg : (M 6 (1 + u)).toNatClampNeg = GG T (M 6) u := by unfold GG; rw [if_pos ⟨by omega, g2⟩]
        have hle := GG_le hR u
        rw [eg, nI_clamp (by omega), ih (u + 1) _ _ (by omega) (by omega) (by omega), Nat.add_assoc, Nat.add_assoc]
      · have eg : GG T (M 6) u = 0 := by unfold GG; rw [if_neg (fun z => g2 z.2)]
        have eg2 : Us (fun c => FF T C (M 5) (M 6) c u) 0 3 = 0 := Us_0 _ _ (fun j _ => FF_b g2)
        rw [if_neg g2, eg, eg2, Nat.zero_add, Nat.zero_add, ih (u + 1) _ _ (by omega) (by omega) (by omega)]
theorem nI_mul (a b : Nat) : nI a * nI b = nI (a * b) := (Int32.ofNat_mul a b).symm
theorem nI_rem {a b : Nat} (ha : a < 2 ^ 31) (hb0 : 0 < b) (hb : b < 2 ^ 31) : nI a - nI a / nI b * nI b = nI (a % b) := by
  rw [nI_div ha hb0 hb, nI_mul, nI_sub (Nat.div_mul_le_self a b)]
  congr 1
  rw [Nat.mod_def, Nat.mul_comm]
theorem gcd_ref : ∀ n a b, a < 2 ^ 31 → b < 2 ^ 31 → b < n → d_X7_together_L159 n (nI a) (nI b) = nI (Nat.gcd b a) := by
  intro n
  induction n with
  | zero => intro a b h1 h2 h3; exact absurd h3 (by omega)
  | succ n ih =>
    intro a b h1 h2 h3
    by_cases g : b = 0
    · subst g
      rw [d_X7_together_L159, Nat.gcd_zero_left]; exact if_pos (by decide)
    · have hr : a % b < b := Nat.mod_lt _ (by omega)
      rw [d_X7_together_L159, nI_rem h1 (by omega) h2, Nat.gcd_rec]
      exact (if_neg (nI_nle (by omega) h2)).trans (ih b (a % b) h2 (by omega) (by omega))
theorem gcd_cls : ∀ k n a b st, a < 2 ^ 31 → b < 2 ^ 31 → b < 2 ^ k → st + (2 * k + 1) ≤ 64 → 64 < st + n → d_X6_commonDivisor_L7 n (nI a) (nI b) st = nI (Nat.gcd b a) := by
  intro k
  induction k with
  | zero =>
    intro n a b st h1 h2 h3 h4 h5
    cases n with
    | zero => exact absurd h5 (by omega)
    | succ n =>
      have : b = 0 := by omega
      subst this
      rw [d_X6_commonDivisor_L7, Nat.gcd_zero_left]
      exact (if_neg (nI_ge (b := 64) (by omega) (by decide))).trans (if_pos rfl)
  | succ k ih =>
    intro n a b st h1 h2 h3 h4 h5
    cases n with
    | zero => exact absurd h5 (by omega)
    | succ n =>
      by_cases g : b = 0
      · subst g
        rw [d_X6_commonDivisor_L7, Nat.gcd_zero_left]
        exact (if_neg (nI_ge (b := 64) (by omega) (by decide))).trans (if_pos rfl)
      · have hr : a % b < b := Nat.mod_lt _ (by omega)
        have e1 : d_X6_commonDivisor_L7 (n + 1) (nI a) (nI b) st = d_X6_commonDivisor_L7 n (nI b) (nI (a % b)) (st + 1) := by
          rw [d_X6_commonDivisor_L7, nI_rem h1 (by omega) h2]
          exact (if_neg (nI_ge (b := 64) (by omega) (by decide))).trans (if_neg (nI_ne0 (by omega) h2))
        rw [e1, Nat.gcd_rec]
        generalize a % b = r at hr
        cases n with
        | zero => exact absurd h5 (by omega)
        | succ n =>
          by_cases g2 : r = 0
          · subst g2
            rw [d_X6_commonDivisor_L7, Nat.gcd_zero_left]
            exact (if_neg (nI_ge (b := 64) (by omega) (by decide))).trans (if_pos rfl)
          · have hq : b % r < r := Nat.mod_lt _ (by omega)
            have hq2 : b % r + r ≤ b := by
              have h6 := Nat.div_add_mod b r
              have h7 : 1 ≤ b / r := (Nat.one_le_div_iff (by omega)).mpr (by omega)
              have h8 : r * 1 ≤ r * (b / r) := Nat.mul_le_mul_left r h7
              omega
            have e2 : d_X6_commonDivisor_L7 (n + 1) (nI b) (nI r) (st + 1) = d_X6_commonDivisor_L7 n (nI r) (nI (b % r)) (st + 1 + 1) := by
              rw [d_X6_commonDivisor_L7, nI_rem h2 (by omega) (by omega)]
              exact (if_neg (nI_ge (b := 64) (by omega) (by decide))).trans (if_neg (nI_ne0 (by omega) (by omega)))
            rw [e2, Nat.gcd_rec]
            have hp : 2 ^ (k + 1) = 2 * 2 ^ k := by rw [Nat.pow_succ, Nat.mul_comm]
            exact ih n r (b % r) (st + 1 + 1) (by omega) (by omega) (by omega) (by omega) (by omega)
theorem s_together {R M : Nat → Nat → Int32} {t part : Int32} (h : Inv R M) : d_X6_together R t part = d_X7_together M t part := by
  obtain ⟨T, C, hT, hC, t1, c1, k1, -, hnow, -⟩ := h
  have n1 : ¬ (1 : Int32) = 0 := by decide
  have n0 : ¬ (0 : Int32) = 1 := by decide
  rcases town_cases (Q := shf M 0) (t := t) hT t1 (RS_t hnow) with ⟨v, hv, rfl, e1, e2⟩ | ⟨e1, e2⟩
  · have c0 : (nI v).toNatClampNeg = v := nI_clamp (by omega)
    by_cases g : part < 0 ∨ 1 < part
    · have e7 : d_X7_together M (nI v) part = -1 := by rw [d_X7_together]; exact (lt_eq e2.symm).trans ((if_neg n1).trans ((lt_eq (y := 0) (by rw [in_eq, if_pos g])).trans (if_pos rfl)))
      have e6 : d_X6_together R (nI v) part = -1 := by
        rw [d_X6_together]
        refine (oc_some e1).trans ?_
        by_cases g2 : part < 0
        · exact if_pos g2
        · exact (if_neg g2).trans (if_neg (Int32.not_le.mpr (g.resolve_left g2)))
      rw [e6, e7]
    · have i1 : d_X7_in part 0 1 = 1 := by rw [in_eq, if_neg g]
      have hR := hnow.2.2.1
      have q1 : R (25 + v) 1 = M 6 (25 + v) := (now_T hnow hv).1
      have q3 : R (25 + v) 3 = M 6 (1 + v) := (now_T hnow hv).2.2.1
      have ea : d_X3_silverOfAll (shf R 22) = nI (Us (GG T (M 6)) 0 6) := by
        have z := sil_sum hT hnow 7 0 0 (by decide) (by decide)
        rw [Nat.zero_add, nI_0] at z
        rw [d_X3_silverOfAll]; exact (lt_eq rfl).trans z
      have eb : d_X3_askedOfAll (shf R 22) = nI (Us (fun c => Us (FF T C (M 5) (M 6) c) 0 6) 0 3) := by
        have z := ask_out hT hC hnow 4 0 0 (by decide) (by decide)
        rw [Nat.zero_add, nI_0] at z
        rw [d_X3_askedOfAll]; exact (lt_eq rfl).trans z
      have ec := tog_out hT hC t1 c1 hR hnow.2.1 7 0 0 0 (by decide) (by decide) (by decide)
      rw [Nat.zero_add, Nat.zero_add, nI_0] at ec
      have sw : Us (fun c => Us (FF T C (M 5) (M 6) c) 0 6) 0 3 = Us (fun u => Us (fun c => FF T C (M 5) (M 6) c u) 0 3) 0 6 := by
        rw [us3, us6]
        simp only [us3, us6]
        omega
      have bA : Us (fun c => Us (FF T C (M 5) (M 6) c) 0 6) 0 3 ≤ 18000 := by
        have hF := FF_le (T := T) (C := C) (kd := M 5) hR
        have := hF 0 0; have := hF 0 1; have := hF 0 2; have := hF 0 3; have := hF 0 4; have := hF 0 5
        have := hF 1 0; have := hF 1 1; have := hF 1 2; have := hF 1 3; have := hF 1 4; have := hF 1 5
        have := hF 2 0; have := hF 2 1; have := hF 2 2; have := hF 2 3; have := hF 2 4; have := hF 2 5
        rw [us3]
        simp only [us6]
        omega
      have bB : Us (GG T (M 6)) 0 6 ≤ 6000 := by
        have hG := GG_le (T := T) hR
        have := hG 0; have := hG 1; have := hG 2; have := hG 3; have := hG 4; have := hG 5
        rw [us6]
        omega
      rw [← sw] at ec
      generalize Us (fun c => Us (FF T C (M 5) (M 6) c) 0 6) 0 3 = A at eb ec bA
      generalize Us (GG T (M 6)) 0 6 = B at ea ec bB
      obtain ⟨s, hs, es⟩ := (hR.1 v hv).1
      have hAs : A * s ≤ 18000 * 999 := Nat.mul_le_mul bA hs
      have p6 : ∀ x : Int32, (lt (nI B) fun u11 => if R (25 + v) 1 = 0 then (if 0 < u11 then lt (nI A) fun u18 => lt (d_X6_commonDivisor (u18 * R (25 + v) 3) u11) fun u23 => if 0 < u23 then (if part = 0 then (u18 * R (25 + v) 3) / u23 else u11 / u23) else (-4 : Int32) else (-4 : Int32)) else (-4 : Int32)) = x → d_X6_together R (nI v) part = x := fun x hx => by
        rw [d_X6_together, ea, eb]; exact (oc_some e1).trans ((if_neg (fun w => g (Or.inl w))).trans ((if_pos (Int32.not_lt.mp (fun w => g (Or.inr w)))).trans hx))
      have p7 : ∀ x : Int32, (if nI B = 0 then (-4 : Int32) else if M 6 (25 + v) = 1 then (-4 : Int32) else lt (d_X7_together_L159 ((nI B).toInt.toNat + 1) (nI A * M 6 (1 + v)) (nI B)) fun s84 => if part = 0 then (nI A * M 6 (1 + v)) / s84 else nI B / s84) = x → d_X7_together M (nI v) part = x := fun x hx => by
        rw [d_X7_together, c0]; exact (lt_eq e2.symm).trans ((if_neg n1).trans ((lt_eq i1.symm).trans ((if_neg n1).trans ((lt_eq ec.symm).trans hx))))
      by_cases gB : B = 0
      · subst gB
        have e7 := p7 (-4) (if_pos nI_0)
        have e6 := p6 (-4) (by
          refine (lt_eq rfl).trans ?_
          by_cases w : R (25 + v) 1 = 0
          · exact (if_pos w).trans (if_neg (by decide))
          · exact if_neg w)
        rw [e6, e7]
      · have nB : ¬ nI B = 0 := nI_ne0 (by omega) (by omega)
        rcases (hR.1 v hv).2.1 with b1 | b1
        · have eg6 : d_X6_commonDivisor (nI (A * s)) (nI B) = nI (Nat.gcd B (A * s)) := by
            have z := gcd_cls 13 65 (A * s) B 0 (by omega) (by omega) (by omega) (by decide) (by decide)
            rw [d_X6_commonDivisor]; exact (lt_eq rfl).trans z
          have eg7 : d_X7_together_L159 ((nI B).toInt.toNat + 1) (nI (A * s)) (nI B) = nI (Nat.gcd B (A * s)) := by
            rw [nI_toInt (by omega)]
            exact gcd_ref _ _ _ (by omega) (by omega) (by omega)
          have gp : 0 < Nat.gcd B (A * s) := Nat.gcd_pos_of_pos_left _ (by omega)
          have gle : Nat.gcd B (A * s) ≤ B := Nat.gcd_le_left _ (by omega)
          have e6 := p6 (if part = 0 then nI (A * s) / nI (Nat.gcd B (A * s)) else nI B / nI (Nat.gcd B (A * s))) (by
            refine (lt_eq rfl).trans ((if_pos (by rw [q1]; exact b1)).trans ((if_pos (by rw [← nI_0]; exact nI_lt (by omega) (by omega))).trans ((lt_eq rfl).trans ?_)))
            rw [q3, es, nI_mul]
            exact (lt_eq eg6.symm).trans (if_pos (by rw [← nI_0]; exact nI_lt gp (by omega))))
          have e7 := p7 (if part = 0 then nI (A * s) / nI (Nat.gcd B (A * s)) else nI B / nI (Nat.gcd B (A * s))) (by
            refine (if_neg nB).trans ((if_neg (by rw [b1]; exact n0)).trans ?_)
            rw [es, nI_mul]
            exact lt_eq eg7.symm)
          rw [e6, e7]
        · have e7 := p7 (-4) ((if_neg nB).trans (if_pos b1))
          have e6 := p6 (-4) ((lt_eq rfl).trans (if_neg (by rw [q1, b1]; exact n1)))
          rw [e6, e7]
  · have e6 : d_X6_together R t part = -1 := by rw [d_X6_together]; exact oc_none e1
    have e7 : d_X7_together M t part = -1 := by rw [d_X7_together]; exact (lt_eq e2.symm).trans (if_pos rfl)
    rw [e6, e7]
