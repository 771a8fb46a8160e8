/-! hoard -/
theorem tr_copy2 {T C : Nat} {kd : Nat → Int32} {cost : Int32} {R0 R M0 M : Nat → Nat → Int32} {o s : Nat} (hT : T ≤ 6) (h : TR R0 R M0 M) (ho : (o = 22 ∧ s = 6) ∨ (o = 4 ∧ s = 7)) (hr : RS T C kd cost (shf R0 o) (M0 s)) : RS T C kd cost (shf (spl R 40 15 (d_X3_copy (shf R 40) (shf R o))) 40) (M0 s) := by
  obtain ⟨h1, h2, h3, h4⟩ := h
  have hsrc : RS T C kd cost (shf R o) (M0 s) := RS_to hT hr (fun k hk => h1 (o + k) (by omega) (by omega))
  have hcp := RS_copy (r := shf R 40) hT hsrc (fun c hc => h4 c hc)
  generalize d_X3_copy (shf R 40) (shf R o) = u at hcp
  refine RS_to hT hcp (fun k hk => ?_)
  show spl R 40 15 u (40 + k) = u k
  rw [spl_in (by omega), show 40 + k - 40 = k by omega]
/-- what was found of spring k agrees -/
def AG (f : Nat → Nat → Int32) (n : Nat) (a : Nat → Int32) (k : Nat) : Prop := ∀ j, j < n → f 2 j = nI k → a (1 + (f 1 j).toNatClampNeg) = f 3 j
theorem agree_eq {T C n k : Nat} {kd : Nat → Int32} {cost : Int32} {f f0 r : Nat → Nat → Int32} {a : Nat → Int32} (hT : T ≤ 6) (h : RS T C kd cost r a) (ef : ∀ q, q < 4 → f q = f0 q) (hf : f0 0 3 = nI n) (hn : n ≤ 6) (ft : ∀ i, i < n → ∃ t, t < T ∧ f0 1 i = nI t) : ∀ m i, i ≤ 6 → 6 < i + m → (d_X1_agree_L2 f r (nI k) m i = .inr () ∧ ∀ j, i ≤ j → j < n → f0 2 j = nI k → a (1 + (f0 1 j).toNatClampNeg) = f0 3 j) ∨ (d_X1_agree_L2 f r (nI k) m i = .inl 0 ∧ ¬ ∀ j, i ≤ j → j < n → f0 2 j = nI k → a (1 + (f0 1 j).toNatClampNeg) = f0 3 j) := by
  intro m
  induction m with
  | zero => intro i h1 h2; exact absurd h2 (by omega)
  | succ m ih =>
    intro i h1 h2
    have f3 : f 0 3 = nI n := by rw [ef 0 (by decide)]; exact hf
    by_cases g : n ≤ i
    · refine Or.inl ⟨?_, fun j h3 h4 => absurd h4 (by omega)⟩
      rw [d_X1_agree_L2, f3]; exact if_pos (nI_le g (by omega))
    · obtain ⟨t, ht, et⟩ := ft i (by omega)
      have ct : (f0 1 i).toNatClampNeg = t := by rw [et]; exact nI_clamp (by omega)
      have e1 : f 1 i = nI t := by rw [ef 1 (by decide)]; exact et
      have e2 : f 2 i = f0 2 i := by rw [ef 2 (by decide)]
      have e3 : f 3 i = f0 3 i := by rw [ef 3 (by decide)]
      have g1 : ¬ f 0 3 ≤ nI i := by rw [f3]; exact nI_ge (by omega) (by omega)
      have g2 : ¬ (6 : Int32) ≤ nI i := nI_ge (b := 6) (by omega) (by decide)
      have rt : r (3 + t) 3 = a (1 + t) := (RS_T h ht).2.2.1
      have st : d_X1_agree_L2 f r (nI k) (m + 1) i = if f0 2 i = nI k then (if a (1 + t) = f0 3 i then d_X1_agree_L2 f r (nI k) m (i + 1) else .inl 0) else d_X1_agree_L2 f r (nI k) m (i + 1) := by
        rw [d_X1_agree_L2]
        refine (if_neg g1).trans ((if_neg g2).trans ((oc_some (by rw [e1]; exact tri_at hT h ht)).trans ?_))
        rw [e2, e3, rt]
      by_cases x1 : f0 2 i = nI k
      · by_cases x2 : a (1 + t) = f0 3 i
        · rw [if_pos x1, if_pos x2] at st
          rcases ih (i + 1) (by omega) (by omega) with ⟨w1, w2⟩ | ⟨w1, w2⟩
          · refine Or.inl ⟨by rw [st, w1], fun j h3 h4 h5 => ?_⟩
            by_cases z : j = i
            · subst z; rw [ct]; exact x2
            · exact w2 j (by omega) h4 h5
          · exact Or.inr ⟨by rw [st, w1], fun z => w2 (fun j h3 h4 h5 => z j (by omega) h4 h5)⟩
        · rw [if_pos x1, if_neg x2] at st
          exact Or.inr ⟨st, fun z => x2 (by have w := z i (Nat.le_refl _) (by omega) x1; rw [ct] at w; exact w)⟩
      · rw [if_neg x1] at st
        rcases ih (i + 1) (by omega) (by omega) with ⟨w1, w2⟩ | ⟨w1, w2⟩
        · refine Or.inl ⟨by rw [st, w1], fun j h3 h4 h5 => ?_⟩
          by_cases z : j = i
          · subst z; exact absurd h5 x1
          · exact w2 j (by omega) h4 h5
        · exact Or.inr ⟨by rw [st, w1], fun z => w2 (fun j h3 h4 h5 => z j (by omega) h4 h5)⟩
theorem so0 {Rm R u : Nat → Nat → Int32} {k : Nat} : ∀ m i, d_X7_isSo_L49 Rm R k u m 0 i = 0 := by
  intro m
  induction m with
  | zero => intro i; rfl
  | succ m ih =>
    intro i
    rw [d_X7_isSo_L49]
    by_cases g : R 0 21 ≤ nI i
    · exact if_pos g
    · exact (if_neg g).trans ((if_pos rfl).trans (ih (i + 1)))
theorem so_eq {n k : Nat} {f0 Rm R u : Nat → Nat → Int32} {g : Nat → Int32} (e1 : Rm 11 = g) (e2 : R 11 = g) (h21 : R 0 21 = nI n) (hn : n ≤ 6) (hfg : ∀ i, i < n → f0 1 i = g (3 * i) ∧ f0 2 i = g (3 * i + 1) ∧ f0 3 i = g (3 * i + 2)) : ∀ m i, i ≤ 6 → 6 < i + m → (d_X7_isSo_L49 Rm R k u m 1 i = 1 ∧ ∀ j, i ≤ j → j < n → f0 2 j = nI k → u 0 (1 + (f0 1 j).toNatClampNeg) = f0 3 j) ∨ (d_X7_isSo_L49 Rm R k u m 1 i = 0 ∧ ¬ ∀ j, i ≤ j → j < n → f0 2 j = nI k → u 0 (1 + (f0 1 j).toNatClampNeg) = f0 3 j) := by
  intro m
  induction m with
  | zero => intro i h1 h2; exact absurd h2 (by omega)
  | succ m ih =>
    intro i h1 h2
    have n1 : ¬ (1 : Int32) = 0 := by decide
    by_cases q : n ≤ i
    · refine Or.inl ⟨?_, fun j h3 h4 => absurd h4 (by omega)⟩
      rw [d_X7_isSo_L49, h21]; exact if_pos (nI_le q (by omega))
    · obtain ⟨a1, a2, a3⟩ := hfg i (by omega)
      have st : d_X7_isSo_L49 Rm R k u (m + 1) 1 i = if f0 2 i = nI k then (if u 0 (1 + (f0 1 i).toNatClampNeg) = f0 3 i then d_X7_isSo_L49 Rm R k u m 1 (i + 1) else d_X7_isSo_L49 Rm R k u m 0 (i + 1)) else d_X7_isSo_L49 Rm R k u m 1 (i + 1) := by
        rw [d_X7_isSo_L49, h21, e1, e2, a1, a2, a3]; exact (if_neg (nI_ge (by omega) (by omega))).trans (if_neg n1)
      by_cases x1 : f0 2 i = nI k
      · by_cases x2 : u 0 (1 + (f0 1 i).toNatClampNeg) = f0 3 i
        · rw [if_pos x1, if_pos x2] at st
          rcases ih (i + 1) (by omega) (by omega) with ⟨w1, w2⟩ | ⟨w1, w2⟩
          · refine Or.inl ⟨by rw [st, w1], fun j h3 h4 h5 => ?_⟩
            by_cases z : j = i
            · subst z; exact x2
            · exact w2 j (by omega) h4 h5
          · exact Or.inr ⟨by rw [st, w1], fun z => w2 (fun j h3 h4 h5 => z j (by omega) h4 h5)⟩
        · rw [if_pos x1, if_neg x2, so0] at st
          exact Or.inr ⟨st, fun z => x2 (z i (Nat.le_refl _) (by omega) x1)⟩
      · rw [if_neg x1] at st
        rcases ih (i + 1) (by omega) (by omega) with ⟨w1, w2⟩ | ⟨w1, w2⟩
        · refine Or.inl ⟨by rw [st, w1], fun j h3 h4 h5 => ?_⟩
          by_cases z : j = i
          · subst z; exact absurd h5 x1
          · exact w2 j (by omega) h4 h5
        · exact Or.inr ⟨by rw [st, w1], fun z => w2 (fun j h3 h4 h5 => z j (by omega) h4 h5)⟩
theorem imax_nI {a b : Nat} (ha : a < 2 ^ 31) (hb : b < 2 ^ 31) : imax (nI a) (nI b) = nI (max a b) := by
  unfold imax
  by_cases g : a < b
  · rw [if_pos (nI_lt g hb), Nat.max_eq_right (by omega)]
  · rw [if_neg (nI_nlt (by omega) ha), Nat.max_eq_left (by omega)]
theorem last_eq {n : Nat} {f f0 : Nat → Nat → Int32} (ef : ∀ q, q < 4 → f q = f0 q) (hf : f0 0 3 = nI n) (hn : n ≤ 6) (h2 : ∀ i, i < 6 → rg 20 (f0 2 i)) : ∀ m i l, i ≤ 6 → 6 < i + m → l ≤ 20 → ∃ l', l' ≤ 20 ∧ l ≤ l' ∧ d_X1_lastSpring_L4 f m (nI l) i = nI l' ∧ ∀ j, i ≤ j → j < n → ∀ k, k ≤ 20 → f0 2 j = nI k → k ≤ l' := by
  intro m
  induction m with
  | zero => intro i l h1 h2; exact absurd h2 (by omega)
  | succ m ih =>
    intro i l h1 h3 hl
    have f3 : f 0 3 = nI n := by rw [ef 0 (by decide)]; exact hf
    by_cases g : n ≤ i
    · refine ⟨l, hl, Nat.le_refl _, ?_, fun j h4 h5 => absurd h5 (by omega)⟩
      rw [d_X1_lastSpring_L4, f3]; exact if_pos (nI_le g (by omega))
    · obtain ⟨s, hs, es⟩ := h2 i (by omega)
      have e2 : f 2 i = nI s := by rw [ef 2 (by decide)]; exact es
      have st : d_X1_lastSpring_L4 f (m + 1) (nI l) i = d_X1_lastSpring_L4 f m (nI (max l s)) (i + 1) := by
        rw [d_X1_lastSpring_L4, f3, e2, imax_nI (by omega) (by omega)]; exact (if_neg (nI_ge (by omega) (by omega))).trans (if_neg (nI_ge (b := 6) (by omega) (by decide)))
      obtain ⟨l', w1, w2, w3, w4⟩ := ih (i + 1) (max l s) (by omega) (by omega) (by omega)
      refine ⟨l', w1, by omega, by rw [st, w3], fun j h4 h5 k hk ek => ?_⟩
      by_cases z : j = i
      · subst z
        have : k = s := (nI_eq (by omega) (by omega)).mp (by rw [← ek, es])
        omega
      · exact w4 j (by omega) h5 k hk ek
theorem wbf_loop {T C n l : Nat} {kd : Nat → Int32} {cost : Int32} {R0 M0 M : Nat → Nat → Int32} (hT : T ≤ 6) (hC : C ≤ 3) (hk : rg 30 cost) (hf : R0 209 3 = nI n) (hn : n ≤ 6) (ft : ∀ i, i < n → ∃ t, t < T ∧ R0 210 i = nI t) (hl : l ≤ 20) : ∀ m k R a, k ≤ l + 1 → l + 1 < k + m → TR R0 R M0 M → RS T C kd cost (shf R 40) a → (∃ R', d_X6_wouldBeFound_L43 (nI l) m R k = .inr R' ∧ TR R0 R' M0 M ∧ ∀ j, k ≤ j → j ≤ l → AG (shf R0 209) n (itA kd T C cost (j - k + 1) a) j) ∨ (∃ R', d_X6_wouldBeFound_L43 (nI l) m R k = .inl (0, R') ∧ TR R0 R' M0 M ∧ ¬ ∀ j, k ≤ j → j ≤ l → AG (shf R0 209) n (itA kd T C cost (j - k + 1) a) j) := by
  intro m
  induction m with
  | zero => intro k R a h1 h2; exact absurd h2 (by omega)
  | succ m ih =>
    intro k R a h1 h2 h hr
    by_cases g : l < k
    · refine Or.inl ⟨R, ?_, h, fun j h3 h4 => absurd h4 (by omega)⟩
      rw [d_X6_wouldBeFound_L43]; exact if_pos (nI_lt g (by omega))
    · obtain ⟨b1, b2⟩ := tr_go (N := 1) hT hC hk (by decide) h hr
      have st : d_X6_wouldBeFound_L43 (nI l) (m + 1) R k = if d_X1_agree (shf (spl R 40 15 (d_X3_goBy (shf R 40) (nI 1))) 209) (shf (spl R 40 15 (d_X3_goBy (shf R 40) (nI 1))) 40) (nI k) = 0 then .inl ((0 : Int32), spl R 40 15 (d_X3_goBy (shf R 40) (nI 1))) else d_X6_wouldBeFound_L43 (nI l) m (spl R 40 15 (d_X3_goBy (shf R 40) (nI 1))) (k + 1) := by
        rw [d_X6_wouldBeFound_L43]; exact (if_neg (nI_nlt (by omega) (by omega))).trans ((lt_eq rfl).trans (lt_eq rfl))
      generalize spl R 40 15 (d_X3_goBy (shf R 40) (nI 1)) = X at b1 b2 st
      have ef : ∀ q, q < 4 → shf X 209 q = shf R0 209 q := fun q hq => b1.1 (209 + q) (by omega) (by omega)
      have ea : d_X1_agree (shf X 209) (shf X 40) (nI k) = sc (d_X1_agree_L2 (shf X 209) (shf X 40) (nI k) 7 0) (fun r => r) fun _ => 1 := rfl
      rcases agree_eq (k := k) hT b2 ef hf hn ft 7 0 (by decide) (by decide) with ⟨w1, w2⟩ | ⟨w1, w2⟩
      · have ea' : d_X1_agree (shf X 209) (shf X 40) (nI k) = 1 := by rw [ea, w1]; rfl
        rw [ea', if_neg (by decide)] at st
        have hk0 : AG (shf R0 209) n (itA kd T C cost (k - k + 1) a) k := by rw [Nat.sub_self]; exact fun j h3 h4 => w2 j (Nat.zero_le _) h3 h4
        have step : ∀ j, k + 1 ≤ j → itA kd T C cost (j - k + 1) a = itA kd T C cost (j - (k + 1) + 1) (itA kd T C cost 1 a) := fun j hj => by
          rw [show j - k + 1 = (j - (k + 1) + 1) + 1 by omega]; rfl
        rcases ih (k + 1) X _ (by omega) (by omega) b1 b2 with ⟨R', y1, y2, y3⟩ | ⟨R', y1, y2, y3⟩
        · refine Or.inl ⟨R', by rw [st, y1], y2, fun j h3 h4 => ?_⟩
          by_cases z : j = k
          · subst z; exact hk0
          · rw [step j (by omega)]; exact y3 j (by omega) h4
        · refine Or.inr ⟨R', by rw [st, y1], y2, fun z => y3 (fun j h3 h4 => ?_)⟩
          rw [← step j h3]; exact z j (by omega) h4
      · have ea' : d_X1_agree (shf X 209) (shf X 40) (nI k) = 0 := by rw [ea, w1]; rfl
        rw [ea', if_pos rfl] at st
        refine Or.inr ⟨X, st, b1, fun z => w2 (fun j _ h3 h4 => ?_)⟩
        have w := z k (Nat.le_refl _) (by omega)
        rw [Nat.sub_self] at w
        exact w j h3 h4
theorem so_loop0 {Rm M : Nat → Nat → Int32} : ∀ m k, d_X7_isSo_L27 Rm m M 0 k = (M, 0) := by
  intro m k
  cases m with
  | zero => rfl
  | succ m =>
    rw [d_X7_isSo_L27]
    by_cases g : 20 < nI k
    · exact if_pos g
    · exact (if_neg g).trans (if_pos rfl)
theorem so_loop {T C n : Nat} {R0 R M0 Rm : Nat → Nat → Int32} (hT : T ≤ 6) (hC : C ≤ 3) (t1 : M0 0 10 = nI T) (c1 : M0 0 11 = nI C) (h21 : M0 0 21 = nI n) (hn : n ≤ 6) (em : Rm 11 = M0 11) (hfg : ∀ i, i < n → shf R0 209 1 i = M0 11 (3 * i) ∧ shf R0 209 2 i = M0 11 (3 * i + 1) ∧ shf R0 209 3 i = M0 11 (3 * i + 2)) : ∀ m k M, k ≤ 21 → 21 < k + m → TR R0 R M0 M → ∃ M', TR R0 R M0 M' ∧ ((d_X7_isSo_L27 Rm m M 1 k = (M', 1) ∧ ∀ j, k ≤ j → j ≤ 20 → AG (shf R0 209) n (itA (M0 5) T C (M0 0 12) (j - k + 1) (M 8)) j) ∨ (d_X7_isSo_L27 Rm m M 1 k = (M', 0) ∧ ¬ ∀ j, k ≤ j → j ≤ 20 → AG (shf R0 209) n (itA (M0 5) T C (M0 0 12) (j - k + 1) (M 8)) j)) := by
  intro m
  induction m with
  | zero => intro k M h1 h2; exact absurd h2 (by omega)
  | succ m ih =>
    intro k M h1 h2 h
    have n1 : ¬ (1 : Int32) = 0 := by decide
    by_cases g : 20 < k
    · refine ⟨M, h, Or.inl ⟨?_, fun j h3 h4 => absurd h4 (by omega)⟩⟩
      rw [d_X7_isSo_L27]; exact if_pos (nI_lt (a := 20) g (by omega))
    · have hs := tr_spr hT hC t1 c1 h
      have st : d_X7_isSo_L27 Rm (m + 1) M 1 k = d_X7_isSo_L27 Rm m (spl M 8 1 (d_X7_spring (shf M 0) (shf M 5) (shf M 8))) (d_X7_isSo_L49 Rm M k (d_X7_spring (shf M 0) (shf M 5) (shf M 8)) 7 1 0) (k + 1) := by
        rw [d_X7_isSo_L27]; exact (if_neg (nI_nlt (a := 20) (b := k) (by omega) (by decide))).trans ((if_neg n1).trans ((lt_eq rfl).trans (lt_eq rfl)))
      generalize d_X7_spring (shf M 0) (shf M 5) (shf M 8) = u at hs st
      have h' : TR R0 R M0 (spl M 8 1 u) := h.m8 (fun q hq => spl_out (by omega))
      generalize hX : spl M 8 1 u = X at hs st h'
      have e8 : X 8 = u 0 := by rw [← hX, spl_in (by omega)]
      have step : ∀ j, k + 1 ≤ j → itA (M0 5) T C (M0 0 12) (j - k + 1) (M 8) = itA (M0 5) T C (M0 0 12) (j - (k + 1) + 1) (X 8) := fun j hj => by
        rw [show j - k + 1 = (j - (k + 1) + 1) + 1 by omega, hs]; rfl
      have e11 : M 11 = M0 11 := h.2.1 11 (by decide) (by decide) (by decide) (by decide)
      rcases so_eq (k := k) (u := u) em e11 ((h.2.2.1 21 (by decide)).trans h21) hn hfg 7 0 (by decide) (by decide) with ⟨w1, w2⟩ | ⟨w1, w2⟩
      · rw [w1] at st
        have hk0 : AG (shf R0 209) n (itA (M0 5) T C (M0 0 12) (k - k + 1) (M 8)) k := by
          rw [Nat.sub_self, Nat.zero_add, ← hs, e8]; exact fun j h3 h4 => w2 j (Nat.zero_le _) h3 h4
        obtain ⟨M', y0, y⟩ := ih (k + 1) X (by omega) (by omega) h'
        refine ⟨M', y0, ?_⟩
        rcases y with ⟨y1, y2⟩ | ⟨y1, y2⟩
        · refine Or.inl ⟨by rw [st, y1], fun j h3 h4 => ?_⟩
          by_cases z : j = k
          · subst z; exact hk0
          · rw [step j (by omega)]; exact y2 j (by omega) h4
        · refine Or.inr ⟨by rw [st, y1], fun z => y2 (fun j h3 h4 => ?_)⟩
          rw [← step j h3]; exact z j (by omega) h4
      · rw [w1, so_loop0] at st
        refine ⟨X, h', Or.inr ⟨st, fun z => w2 (fun j _ h3 h4 => ?_)⟩⟩
        have w := z k (Nat.le_refl _) (by omega)
        rw [Nat.sub_self, Nat.zero_add, ← hs, e8] at w
        exact w j h3 h4
/-- one silver tried on both sides -/
theorem so_pair {T C n v s : Nat} {R0 R M0 M : Nat → Nat → Int32} (hT : T ≤ 6) (hC : C ≤ 3) (t1 : M0 0 10 = nI T) (c1 : M0 0 11 = nI C) (hk : rg 30 (M0 0 12)) (hlaid : RS T C (M0 5) (M0 0 12) (shf R0 4) (M0 7)) (hb : ∀ t, t < T → M0 7 (25 + t) = 0) (hf : R0 209 3 = nI n) (h21 : M0 0 21 = nI n) (hn : n ≤ 6) (h20 : ∀ i, i < 6 → rg 20 (R0 211 i)) (hfg : ∀ i, i < n → (∃ t, t < T ∧ R0 210 i = nI t ∧ M0 11 (3 * i) = nI t) ∧ R0 211 i = M0 11 (3 * i + 1) ∧ R0 212 i = M0 11 (3 * i + 2)) (hv : v < T) (hs : s ≤ 99) (h : TR R0 R M0 M) : ∃ g R' M', (g = 0 ∨ g = 1) ∧ d_X6_wouldBeFound R (nI v) (nI s) = (g, R') ∧ d_X7_isSo M (nI v) (nI s) = (g, M') ∧ TR R0 R' M0 M' := by
  have cv : (nI v).toNatClampNeg = v := nI_clamp (by omega)
  obtain ⟨a1, a2⟩ := tr_copy hT hC h (Or.inr ⟨rfl, rfl⟩) hlaid
  have a3 := tr_copy2 hT h (Or.inr ⟨rfl, rfl⟩) hlaid
  have e6 : d_X6_wouldBeFound R (nI v) (nI s) = oc (d_X3_townAt (shf (spl R 40 15 (d_X3_copy (shf R 40) (shf R 4))) 40) (nI v)) ((0 : Int32), spl R 40 15 (d_X3_copy (shf R 40) (shf R 4))) fun k12 => sc (d_X6_wouldBeFound_L43 (d_X1_lastSpring (shf (pt (spl R 40 15 (d_X3_copy (shf R 40) (shf R 4))) (43 + k12) 3 (nI s)) 209)) 22 (pt (spl R 40 15 (d_X3_copy (shf R 40) (shf R 4))) (43 + k12) 3 (nI s)) 1) (fun r => r) fun w => (1, w) := by
    rw [d_X6_wouldBeFound]; exact lt_eq rfl
  have e7 : d_X7_isSo M (nI v) (nI s) = ((d_X7_isSo_L27 M 21 (pt (spl M 8 1 (d_X7_copy (shf M 7) (shf M 8) 64 64 0 0)) 8 (1 + v) (nI s)) 1 1).2, (d_X7_isSo_L27 M 21 (pt (spl M 8 1 (d_X7_copy (shf M 7) (shf M 8) 64 64 0 0)) 8 (1 + v) (nI s)) 1 1).1) := by
    rw [d_X7_isSo, cv]; exact (lt_eq rfl).trans (lt_eq rfl)
  generalize spl R 40 15 (d_X3_copy (shf R 40) (shf R 4)) = X at a1 a2 a3 e6
  generalize spl M 8 1 (d_X7_copy (shf M 7) (shf M 8) 64 64 0 0) = Y at a1 a2 e7
  have e6' := e6.trans (oc_some (tri_at hT a2 hv))
  have rs : rg 999 (nI s) := ⟨s, by omega, rfl⟩
  have n01 : ¬ (0 : Int32) = 1 := by decide
  have b1 := a1.pt (q := 43 + v) (j := 3) (z := nI s) (by omega) (Or.inl (by decide))
  have b3 := RS_ut (z := nI s) hT hC a3 hv (Or.inr (Or.inl ⟨rfl, rfl⟩)) (RG_up1 hT hC a3.2.2.1 (fun t ht _ => ⟨rs, fun w => by rw [hb t ht] at w; exact absurd w n01⟩) (fun _ _ w => absurd w (by omega)) (fun _ _ w => absurd w (by omega)) (fun _ _ w => absurd w (by omega)) (fun _ _ w => absurd w (by omega)) (fun _ _ _ _ w => absurd w (by omega))) (ZR_up1 a3.2.2.2 (fun _ _ _ => rs) (fun _ _ w => absurd w (by omega)))
  have hbY : ∀ t, t < T → Y 8 (25 + t) = 0 := fun t ht => by
    have z1 := (RS_T a2 ht).1
    have z2 := (RS_T a3 ht).1
    rw [← z1, z2, hb t ht]
  have b2 := RS_ut (z := nI s) hT hC a2 hv (Or.inr (Or.inl ⟨rfl, rfl⟩)) (RG_up1 hT hC a2.2.2.1 (fun t ht _ => ⟨rs, fun w => by rw [hbY t ht] at w; exact absurd w n01⟩) (fun _ _ w => absurd w (by omega)) (fun _ _ w => absurd w (by omega)) (fun _ _ w => absurd w (by omega)) (fun _ _ w => absurd w (by omega)) (fun _ _ _ _ w => absurd w (by omega))) (ZR_up1 a2.2.2.2 (fun _ _ _ => rs) (fun _ _ w => absurd w (by omega)))
  rw [← shf_pt (R := X) (i := 40) (m := 43 + v) (by omega)] at b2 b3
  rw [← pt_eq (R := Y) (k := 8)] at b2
  have b1' : TR R0 (pt X (43 + v) 3 (nI s)) M0 (pt Y 8 (1 + v) (nI s)) := b1.m8 (fun q hq => pt_k hq)
  generalize pt X (43 + v) 3 (nI s) = X' at b1' b2 b3 e6'
  generalize pt Y 8 (1 + v) (nI s) = Y' at b1' b2 e7
  have em : M 11 = M0 11 := h.2.1 11 (by decide) (by decide) (by decide) (by decide)
  obtain ⟨l, hl, -, el, hlast⟩ := last_eq (n := n) (f := shf X' 209) (f0 := shf R0 209) (fun q hq => b1'.1 (209 + q) (by omega) (by omega)) hf hn h20 7 0 0 (by decide) (by decide) (by decide)
  have el' : d_X1_lastSpring (shf X' 209) = nI l := el
  rw [el'] at e6'
  have hfg' : ∀ i, i < n → shf R0 209 1 i = M0 11 (3 * i) ∧ shf R0 209 2 i = M0 11 (3 * i + 1) ∧ shf R0 209 3 i = M0 11 (3 * i + 2) := fun i hi => by
    obtain ⟨⟨t, ht, x1, x2⟩, x3, x4⟩ := hfg i hi
    exact ⟨x1.trans x2.symm, x3, x4⟩
  have ft : ∀ i, i < n → ∃ t, t < T ∧ R0 210 i = nI t := fun i hi => by
    obtain ⟨⟨t, ht, x1, x2⟩, x3, x4⟩ := hfg i hi
    exact ⟨t, ht, x1⟩
  have br : ∀ j, j ≤ 20 → ((AG (shf R0 209) n (itA (M0 5) T C (M0 0 12) j (upd (M0 7) (1 + v) (nI s))) j) ↔ (AG (shf R0 209) n (itA (M0 5) T C (M0 0 12) j (Y' 8)) j)) := by
    intro j hj
    have g1 := RS_go hT hC hk (N := j) (by omega) b2
    have g2 := RS_go hT hC hk (N := j) (by omega) b3
    have e : ∀ i, i < n → itA (M0 5) T C (M0 0 12) j (upd (M0 7) (1 + v) (nI s)) (1 + (shf R0 209 1 i).toNatClampNeg) = itA (M0 5) T C (M0 0 12) j (Y' 8) (1 + (shf R0 209 1 i).toNatClampNeg) := fun i hi => by
      obtain ⟨t, ht, et⟩ := ft i hi
      have et' : shf R0 209 1 i = nI t := et
      rw [et', nI_clamp (by omega), ← (RS_T g1 ht).2.2.1, ← (RS_T g2 ht).2.2.1]
    exact ⟨fun w i hi hi2 => by rw [← e i hi]; exact w i hi hi2, fun w i hi hi2 => by rw [e i hi]; exact w i hi hi2⟩
  have allr : (∀ j, 1 ≤ j → j ≤ l → AG (shf R0 209) n (itA (M0 5) T C (M0 0 12) (j - 1 + 1) (upd (M0 7) (1 + v) (nI s))) j) ↔ ∀ j, 1 ≤ j → j ≤ 20 → AG (shf R0 209) n (itA (M0 5) T C (M0 0 12) (j - 1 + 1) (Y' 8)) j := by
    refine ⟨fun w j h1 h2 => ?_, fun w j h1 h2 => ?_⟩
    · by_cases z : j ≤ l
      · have := w j h1 z
        rw [show j - 1 + 1 = j by omega] at this ⊢
        exact (br j h2).mp this
      · exact fun i hi hi2 => absurd (hlast i (Nat.zero_le _) hi j h2 hi2) z
    · have := w j h1 (by omega)
      rw [show j - 1 + 1 = j by omega] at this ⊢
      exact (br j (by omega)).mpr this
  obtain ⟨M', m0, mm⟩ := so_loop (Rm := M) hT hC t1 c1 h21 hn em hfg' 21 1 Y' (by omega) (by omega) b1'
  rcases wbf_loop hT hC hk hf hn ft hl 22 1 X' _ (by omega) (by omega) b1' b3 with ⟨R', r1, r2, r3⟩ | ⟨R', r1, r2, r3⟩
  · rcases mm with ⟨m1, m2⟩ | ⟨m1, m2⟩
    · rw [r1] at e6'
      rw [m1] at e7
      exact ⟨1, R', M', Or.inr rfl, e6', e7, r2.1, m0.2.1, m0.2.2.1, r2.2.2.2⟩
    · exact absurd (allr.mp r3) m2
  · rcases mm with ⟨m1, m2⟩ | ⟨m1, m2⟩
    · exact absurd (allr.mpr m2) r3
    · rw [r1] at e6'
      rw [m1] at e7
      exact ⟨0, R', M', Or.inl rfl, e6', e7, r2.1, m0.2.1, m0.2.2.1, r2.2.2.2⟩
/-- how many of the first s have it, and which is the first -/
def cnt (g : Nat → Int32) : Nat → Nat
  | 0 => 0
  | s + 1 => if g s = 0 then cnt g s else cnt g s + 1
def fst4 (g : Nat → Int32) : Nat → Int32
  | 0 => -4
  | s + 1 => if fst4 g s = -4 then (if g s = 0 then -4 else nI s) else fst4 g s
theorem nI_ne4 {s : Nat} (h : s < 2 ^ 31) : ¬ nI s = -4 := fun w => by
  have : nI s < 0 := by rw [w]; decide
  exact nI_pos h this
theorem hoard_up {v : Nat} {R0 M0 : Nat → Nat → Int32} {g : Nat → Int32} (hp : ∀ s R, s ≤ 99 → TR R0 R M0 M0 → ∃ R', (g s = 0 ∨ g s = 1) ∧ d_X6_wouldBeFound R (nI v) (nI s) = (g s, R') ∧ TR R0 R' M0 M0) : ∀ n s R, s ≤ 100 → 100 < s + n → TR R0 R M0 M0 → ∃ R', d_X6_hoard_L31 (nI v) n R (nI (cnt g s)) (fst4 g s) s = (R', nI (cnt g 100), fst4 g 100) ∧ TR R0 R' M0 M0 := by
  intro n
  induction n with
  | zero => intro s R h1 h2; exact absurd h2 (by omega)
  | succ n ih =>
    intro s R h1 h2 h
    by_cases c1 : 99 < s
    · have es : s = 100 := by omega
      subst es
      exact ⟨R, by rw [d_X6_hoard_L31]; exact if_pos (nI_lt (a := 99) (by omega) (by decide)), h⟩
    · obtain ⟨R', b, e, h'⟩ := hp s R (by omega) h
      have st : d_X6_hoard_L31 (nI v) (n + 1) R (nI (cnt g s)) (fst4 g s) s = d_X6_hoard_L31 (nI v) n R' (nI (cnt g (s + 1))) (fst4 g (s + 1)) (s + 1) := by
        rw [d_X6_hoard_L31, e, cnt, fst4]
        refine (if_neg (nI_nlt (a := 99) (b := s) (by omega) (by decide))).trans ((lt_eq rfl).trans ?_)
        rcases b with b | b
        · rw [b, if_pos rfl, if_pos rfl, if_pos rfl]
          by_cases w : fst4 g s = -4
          · rw [if_pos w, w]
          · rw [if_neg w]
        · have n1 : ¬ (1 : Int32) = 0 := by decide
          rw [b, if_neg n1, if_neg n1, if_neg n1]
          have e1 : nI (cnt g s) + Int32.ofInt 1 = nI (cnt g s + 1) := nI_inc _ rfl
          by_cases w : fst4 g s = -4
          · rw [if_pos w, if_pos w, e1]
          · rw [if_neg w, if_neg w, e1]
      rw [st]
      exact ih (s + 1) R' (by omega) (by omega) h'
theorem decr1 {s : Nat} : nI (s + 1) - 1 + Int32.ofInt (-1) = nI s - 1 := by
  rw [nI_pred, Int32.sub_eq_add_neg, show Int32.ofInt (-1) = -(1 : Int32) by decide]
theorem hoard_down {v : Nat} {R0 M0 : Nat → Nat → Int32} {g : Nat → Int32} (hp : ∀ s M, s ≤ 99 → TR R0 R0 M0 M → ∃ M', (g s = 0 ∨ g s = 1) ∧ d_X7_isSo M (nI v) (nI s) = (g s, M') ∧ TR R0 R0 M0 M') : ∀ s n c low M, s ≤ 100 → s < n → TR R0 R0 M0 M → ∃ M', d_X7_hoard_L29 (nI v) n M (nI c) low (nI s - 1) = (M', nI (c + cnt g s), if fst4 g s = -4 then low else fst4 g s) ∧ TR R0 R0 M0 M' := by
  intro s
  induction s with
  | zero =>
    intro n c low M h1 h2 h
    cases n with
    | zero => exact absurd h2 (by omega)
    | succ n =>
      exact ⟨M, by rw [d_X7_hoard_L29]; exact if_pos (by decide), h⟩
  | succ s ih =>
    intro n c low M h1 h2 h
    cases n with
    | zero => exact absurd h2 (by omega)
    | succ n =>
      obtain ⟨M', b, e, h'⟩ := hp s M (by omega) h
      have st : ∀ _ : Nat, d_X7_hoard_L29 (nI v) (n + 1) M (nI c) low (nI (s + 1) - 1) = if g s = 0 then d_X7_hoard_L29 (nI v) n M' (nI c) low (nI s - 1) else d_X7_hoard_L29 (nI v) n M' (nI (c + 1)) (nI s) (nI s - 1) := by
        intro _
        rw [d_X7_hoard_L29, decr1, nI_pred, e]
        refine (if_neg (nI_pos (by omega))).trans ((lt_eq rfl).trans ?_)
        have e1 : nI c + Int32.ofInt 1 = nI (c + 1) := nI_inc _ rfl
        rw [e1]
      rw [st 0]
      rw [cnt, fst4]
      rcases b with b | b
      · obtain ⟨M2, f, f2⟩ := ih n c low M' (by omega) (by omega) h'
        refine ⟨M2, ?_, f2⟩
        rw [if_pos b, if_pos b, if_pos b, f]
        by_cases w : fst4 g s = -4
        · rw [if_pos w, if_pos w, if_pos rfl]
        · rw [if_neg w, if_neg w, if_neg w]
      · have n1 : ¬ (1 : Int32) = 0 := by decide
        obtain ⟨M2, f, f2⟩ := ih n (c + 1) (nI s) M' (by omega) (by omega) h'
        refine ⟨M2, ?_, f2⟩
        rw [b, if_neg n1, if_neg n1, if_neg n1, f, show c + 1 + cnt g s = c + (cnt g s + 1) by omega]
        by_cases w : fst4 g s = -4
        · rw [if_pos w, if_neg (nI_ne4 (by omega))]
        · rw [if_neg w, if_neg w]
theorem s_hoard {R M : Nat → Nat → Int32} {t what : Int32} (h : Inv R M) : (d_X6_hoard R t what).1 = (d_X7_hoard M t what).1 ∧ Inv (d_X6_hoard R t what).2 (d_X7_hoard M t what).2 := by
  have h' := h
  obtain ⟨T, C, hT, hC, t1, c1, k1, -, -, ⟨hlaid, -, hb⟩, -, -, -, ⟨n, hn, f1, f2, f3, f4⟩⟩ := h'
  have n1 : ¬ (1 : Int32) = 0 := by decide
  rcases town_cases (Q := shf M 0) (t := t) hT t1 (RS_t hlaid) with ⟨v, hv, rfl, e1, e2⟩ | ⟨e1, e2⟩
  · by_cases g : what < 0 ∨ 1 < what
    · have e7 : d_X7_hoard M (nI v) what = (-1, M) := by rw [d_X7_hoard]; exact (lt_eq e2.symm).trans ((if_neg n1).trans ((lt_eq (y := 0) (by rw [in_eq, if_pos g])).trans (if_pos rfl)))
      have e6 : d_X6_hoard R (nI v) what = (-1, R) := by
        rw [d_X6_hoard]
        refine (oc_some e1).trans ?_
        by_cases g2 : what < 0
        · exact if_pos g2
        · exact (if_neg g2).trans (if_neg (Int32.not_le.mpr (g.resolve_left g2)))
      rw [e6, e7]; exact ⟨rfl, h⟩
    · have hfg : ∀ i, i < n → (∃ t, t < T ∧ R 210 i = nI t ∧ M 11 (3 * i) = nI t) ∧ R 211 i = M 11 (3 * i + 1) ∧ R 212 i = M 11 (3 * i + 2) := fun i hi => ⟨(f4 i hi).1, (f4 i hi).2.1, (f4 i hi).2.2.1⟩
      have hp : ∀ s R' M', s ≤ 99 → TR R R' M M' → ∃ g R2 M2, (g = 0 ∨ g = 1) ∧ d_X6_wouldBeFound R' (nI v) (nI s) = (g, R2) ∧ d_X7_isSo M' (nI v) (nI s) = (g, M2) ∧ TR R R2 M M2 := fun s R' M' hs hTR => so_pair hT hC t1 c1 k1 hlaid hb f1 f2 hn (fun i hi => (f3 i hi).1) hfg hv hs hTR
      have h0 := TR.start h
      have p6 : ∀ s R', s ≤ 99 → TR R R' M M → ∃ R2, ((d_X7_isSo M (nI v) (nI s)).1 = 0 ∨ (d_X7_isSo M (nI v) (nI s)).1 = 1) ∧ d_X6_wouldBeFound R' (nI v) (nI s) = ((d_X7_isSo M (nI v) (nI s)).1, R2) ∧ TR R R2 M M := fun s R' hs hTR => by
        obtain ⟨g, R2, M2, b, x1, x2, x3⟩ := hp s R' M hs hTR
        exact ⟨R2, by rw [x2]; exact b, by rw [x1, x2], x3.1, h0.2.1, h0.2.2.1, x3.2.2.2⟩
      have p7 : ∀ s M', s ≤ 99 → TR R R M M' → ∃ M2, ((d_X7_isSo M (nI v) (nI s)).1 = 0 ∨ (d_X7_isSo M (nI v) (nI s)).1 = 1) ∧ d_X7_isSo M' (nI v) (nI s) = ((d_X7_isSo M (nI v) (nI s)).1, M2) ∧ TR R R M M2 := fun s M' hs hTR => by
        obtain ⟨g, R2, M2, b, x1, x2, x3⟩ := hp s R M' hs hTR
        obtain ⟨g', R2', M2', b', x1', x2', x3'⟩ := hp s R M hs h0
        have eg : g' = g := by rw [x1] at x1'; exact (congrArg Prod.fst x1').symm
        exact ⟨M2, by rw [x2', eg]; exact b, by rw [x2, x2', eg], h0.1, x3.2.1, x3.2.2.1, h0.2.2.2⟩
      obtain ⟨R2, u1, u2⟩ := hoard_up (g := fun s => (d_X7_isSo M (nI v) (nI s)).1) p6 101 0 R (by omega) (by omega) h0
      obtain ⟨M2, w1, w2⟩ := hoard_down (g := fun s => (d_X7_isSo M (nI v) (nI s)).1) p7 100 101 0 (-4) M (by omega) (by omega) h0
      have u1' : d_X6_hoard_L31 (nI v) 101 R 0 (-4) 0 = (R2, nI (cnt (fun s => (d_X7_isSo M (nI v) (nI s)).1) 100), fst4 (fun s => (d_X7_isSo M (nI v) (nI s)).1) 100) := u1
      have w1' : d_X7_hoard_L29 (nI v) 101 M 0 (-4) 99 = (M2, nI (0 + cnt (fun s => (d_X7_isSo M (nI v) (nI s)).1) 100), if fst4 (fun s => (d_X7_isSo M (nI v) (nI s)).1) 100 = -4 then -4 else fst4 (fun s => (d_X7_isSo M (nI v) (nI s)).1) 100) := w1
      generalize fst4 (fun s => (d_X7_isSo M (nI v) (nI s)).1) 100 = ff at u1' w1'
      generalize cnt (fun s => (d_X7_isSo M (nI v) (nI s)).1) 100 = cc at u1' w1'
      have ef : (if ff = -4 then -4 else ff) = ff := by
        by_cases z : ff = -4
        · rw [if_pos z, z]
        · rw [if_neg z]
      rw [ef, Nat.zero_add] at w1'
      have e6 : d_X6_hoard R (nI v) what = if what = 0 then (nI cc, R2) else (ff, R2) := by
        rw [d_X6_hoard]; exact (oc_some e1).trans ((if_neg (fun w => g (Or.inl w))).trans ((if_pos (Int32.not_lt.mp (fun w => g (Or.inr w)))).trans (lt_eq u1'.symm)))
      have e7 : d_X7_hoard M (nI v) what = if what = 0 then (nI cc, M2) else (ff, M2) := by
        rw [d_X7_hoard]; exact (lt_eq e2.symm).trans ((if_neg n1).trans ((lt_eq (y := 1) (by rw [in_eq, if_neg g])).trans ((if_neg n1).trans (lt_eq w1'.symm))))
      have hI : Inv R2 M2 := TR.inv (R0 := R) (M0 := M) ⟨u2.1, w2.2.1, w2.2.2.1, u2.2.2.2⟩ h
      rw [e6, e7]
      by_cases z : what = 0
      · rw [if_pos z, if_pos z]; exact ⟨rfl, hI⟩
      · rw [if_neg z, if_neg z]; exact ⟨rfl, hI⟩
  · have e6 : d_X6_hoard R t what = (-1, R) := by rw [d_X6_hoard]; exact oc_none e1
    have e7 : d_X7_hoard M t what = (-1, M) := by rw [d_X7_hoard]; exact (lt_eq e2.symm).trans (if_pos rfl)
    rw [e6, e7]; exact ⟨rfl, h⟩
