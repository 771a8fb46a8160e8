/-! a river copied -/
theorem tcopy {u f : Nat → Nat → Int32} {j : Nat} (hj : j < 8) : d_X5_copy u f 0 j = f 0 j := by
  unfold d_X5_copy
  simp only [pt_eq]
  by_cases h7 : j = 7
  · subst h7; rw [up_e]
  · rw [up_o h7]
    by_cases h6 : j = 6
    · subst h6; rw [up_e]
    · rw [up_o h6]
      by_cases h5 : j = 5
      · subst h5; rw [up_e]
      · rw [up_o h5]
        by_cases h4 : j = 4
        · subst h4; rw [up_e]
        · rw [up_o h4]
          by_cases h3 : j = 3
          · subst h3; rw [up_e]
          · rw [up_o h3]
            by_cases h2 : j = 2
            · subst h2; rw [up_e]
            · rw [up_o h2]
              by_cases h1 : j = 1
              · subst h1; rw [up_e]
              · rw [up_o h1]
                have : j = 0 := by omega
                subst this; rw [up_e]
theorem bcopy {f : Nat → Nat → Int32} : ∀ (n i : Nat) (R : Nat → Nat → Int32), i ≤ 6 → 6 < i + n → d_X0_copy_L34 f n R i 0 = R 0 ∧ (∀ j, j < i → d_X0_copy_L34 f n R i 1 j = R 1 j) ∧ ∀ j, i ≤ j → j < 6 → d_X0_copy_L34 f n R i 1 j = f 1 j := by
  intro n
  induction n with
  | zero => intro i R h1 h2; exact absurd h2 (by omega)
  | succ n ih =>
    intro i R h1 h2
    by_cases c1 : 6 ≤ i
    · have e : d_X0_copy_L34 f (n + 1) R i = R := by rw [d_X0_copy_L34]; exact if_pos (nI_le c1 (by omega))
      rw [e]
      exact ⟨rfl, fun _ _ => rfl, fun j h3 h4 => absurd h4 (by omega)⟩
    · have hb : d_X0_beliefOf f (nI i) = f 1 i := by
        unfold d_X0_beliefOf
        rw [if_neg (nI_pos (by omega)), if_neg (nI_ge (by omega) (by omega)), nI_clamp (by omega)]
      have e : d_X0_copy_L34 f (n + 1) R i = d_X0_copy_L34 f n (pt R 1 i (f 1 i)) (i + 1) := by
        rw [d_X0_copy_L34]; exact (if_neg (nI_ge (by omega) (by omega))).trans (lt_eq hb.symm)
      obtain ⟨g1, g2, g3⟩ := ih (i + 1) (pt R 1 i (f 1 i)) (by omega) (by omega)
      rw [e]
      refine ⟨by rw [g1, pt_k (by decide)], fun j hj => ?_, fun j h3 h4 => ?_⟩
      · rw [g2 j (by omega), pt_eq, up_o (by omega)]
      · by_cases hj : j = i
        · subst hj; rw [g2 j (by omega), pt_eq, up_e]
        · exact g3 j (by omega) h4
theorem ccopy {u f : Nat → Nat → Int32} : (∀ j, j < 4 → d_X0_copy u f 0 j = f 0 j) ∧ d_X0_copy u f 0 4 = u 0 4 ∧ ∀ j, j < 6 → d_X0_copy u f 1 j = f 1 j := by
  obtain ⟨g1, g2, g3⟩ := bcopy (f := f) 7 0 (pt (pt (pt (pt u 0 0 (f 0 0)) 0 1 (f 0 1)) 0 2 (f 0 2)) 0 3 (f 0 3)) (by omega) (by omega)
  have e : d_X0_copy u f = d_X0_copy_L34 f 7 (pt (pt (pt (pt u 0 0 (f 0 0)) 0 1 (f 0 1)) 0 2 (f 0 2)) 0 3 (f 0 3)) 0 := rfl
  rw [e]
  refine ⟨fun j hj => ?_, ?_, fun j hj => g3 j (by omega) hj⟩
  · rw [g1]
    simp only [pt_eq]
    by_cases h3 : j = 3
    · subst h3; rw [up_e]
    · rw [up_o h3]
      by_cases h2 : j = 2
      · subst h2; rw [up_e]
      · rw [up_o h2]
        by_cases h1 : j = 1
        · subst h1; rw [up_e]
        · rw [up_o h1]
          have : j = 0 := by omega
          subst this; rw [up_e]
  · rw [g1]
    simp only [pt_eq]
    rw [up_o (by decide), up_o (by decide), up_o (by decide), up_o (by decide)]
theorem tscopy {f : Nat → Nat → Int32} : ∀ (n i : Nat) (R : Nat → Nat → Int32), i ≤ 6 → 6 < i + n → (∀ q, ¬ (3 + i ≤ q ∧ q < 9) → d_X3_copy_L2 f n R i q = R q) ∧ ∀ t, i ≤ t → t < 6 → ∀ j, j < 8 → d_X3_copy_L2 f n R i (3 + t) j = f (3 + t) j := by
  intro n
  induction n with
  | zero => intro i R h1 h2; exact absurd h2 (by omega)
  | succ n ih =>
    intro i R h1 h2
    by_cases c1 : 6 ≤ i
    · have e : d_X3_copy_L2 f (n + 1) R i = R := by rw [d_X3_copy_L2]; exact if_pos (nI_le c1 (by omega))
      rw [e]
      exact ⟨fun _ _ => rfl, fun t h3 h4 => absurd h4 (by omega)⟩
    · have n6 : ¬ nI 6 ≤ nI i := nI_ge (by omega) (by omega)
      have e : d_X3_copy_L2 f (n + 1) R i = d_X3_copy_L2 f n (spl R (3 + i) 1 (d_X5_copy (shf R (3 + i)) (shf f (3 + i)))) (i + 1) := by
        rw [d_X3_copy_L2]; exact (if_neg n6).trans ((if_neg n6).trans (lt_eq rfl))
      obtain ⟨g1, g2⟩ := ih (i + 1) (spl R (3 + i) 1 (d_X5_copy (shf R (3 + i)) (shf f (3 + i)))) (by omega) (by omega)
      rw [e]
      refine ⟨fun q hq => ?_, fun t h3 h4 j hj => ?_⟩
      · rw [g1 q (by omega), spl_out (by omega)]
      · by_cases ht : t = i
        · subst ht
          rw [g1 (3 + t) (by omega), spl_in (by omega), show 3 + t - (3 + t) = 0 by omega, tcopy hj]
          rfl
        · exact g2 t (by omega) h4 j hj
theorem cscopy {f : Nat → Nat → Int32} : ∀ (n i : Nat) (R : Nat → Nat → Int32), i ≤ 3 → 3 < i + n → (∀ q, ¬ (9 + 2 * i ≤ q ∧ q < 15) → d_X3_copy_L43 f n R i q = R q) ∧ ∀ c, i ≤ c → c < 3 → (∀ j, j < 4 → d_X3_copy_L43 f n R i (9 + 2 * c) j = f (9 + 2 * c) j) ∧ d_X3_copy_L43 f n R i (9 + 2 * c) 4 = R (9 + 2 * c) 4 ∧ ∀ j, j < 6 → d_X3_copy_L43 f n R i (10 + 2 * c) j = f (10 + 2 * c) j := by
  intro n
  induction n with
  | zero => intro i R h1 h2; exact absurd h2 (by omega)
  | succ n ih =>
    intro i R h1 h2
    by_cases c1 : 3 ≤ i
    · have e : d_X3_copy_L43 f (n + 1) R i = R := by rw [d_X3_copy_L43]; exact if_pos (nI_le c1 (by omega))
      rw [e]
      exact ⟨fun _ _ => rfl, fun t h3 h4 => absurd h4 (by omega)⟩
    · have n6 : ¬ nI 3 ≤ nI i := nI_ge (by omega) (by omega)
      have e : d_X3_copy_L43 f (n + 1) R i = d_X3_copy_L43 f n (spl R (9 + 2 * i) 2 (d_X0_copy (shf R (9 + 2 * i)) (shf f (9 + 2 * i)))) (i + 1) := by
        rw [d_X3_copy_L43]; exact (if_neg n6).trans ((if_neg n6).trans (lt_eq rfl))
      obtain ⟨g1, g2⟩ := ih (i + 1) (spl R (9 + 2 * i) 2 (d_X0_copy (shf R (9 + 2 * i)) (shf f (9 + 2 * i)))) (by omega) (by omega)
      obtain ⟨k1, k2, k3⟩ := ccopy (u := shf R (9 + 2 * i)) (f := shf f (9 + 2 * i))
      rw [e]
      refine ⟨fun q hq => ?_, fun c h3 h4 => ?_⟩
      · rw [g1 q (by omega), spl_out (by omega)]
      · by_cases hc : c = i
        · subst hc
          rw [g1 (9 + 2 * c) (by omega), g1 (10 + 2 * c) (by omega), spl_in (by omega), spl_in (by omega), show 9 + 2 * c - (9 + 2 * c) = 0 by omega, show 10 + 2 * c - (9 + 2 * c) = 1 by omega]
          refine ⟨fun j hj => k1 j hj, k2, fun j hj => ?_⟩
          rw [k3 j hj]
          show f (9 + 2 * c + 1) j = _
          rw [show 9 + 2 * c + 1 = 10 + 2 * c by omega]
        · obtain ⟨m1, m2, m3⟩ := g2 c (by omega) h4
          refine ⟨m1, ?_, m3⟩
          rw [m2, spl_out (by omega)]
/-- what a copied river holds -/
theorem copy_at {r f : Nat → Nat → Int32} : (∀ t, t < 6 → ∀ j, j < 8 → d_X3_copy r f (3 + t) j = f (3 + t) j) ∧ (∀ c, c < 3 → (∀ j, j < 4 → d_X3_copy r f (9 + 2 * c) j = f (9 + 2 * c) j) ∧ d_X3_copy r f (9 + 2 * c) 4 = r (9 + 2 * c) 4 ∧ ∀ j, j < 6 → d_X3_copy r f (10 + 2 * c) j = f (10 + 2 * c) j) ∧ d_X3_copy r f 0 2 = f 0 2 ∧ d_X3_copy r f 0 3 = f 0 3 := by
  have e : d_X3_copy r f = pt (pt (d_X3_copy_L43 f 4 (d_X3_copy_L2 f 7 r 0) 0) 0 2 (f 0 2)) 0 3 (f 0 3) := rfl
  rw [e]
  obtain ⟨g1, g2⟩ := tscopy (f := f) 7 0 r (by omega) (by omega)
  generalize d_X3_copy_L2 f 7 r 0 = s at g1 g2
  obtain ⟨k1, k2⟩ := cscopy (f := f) 4 0 s (by omega) (by omega)
  generalize d_X3_copy_L43 f 4 s 0 = y at k1 k2
  refine ⟨fun t ht j hj => ?_, fun c hc => ?_, ?_, ?_⟩
  · rw [pt_k (by omega), pt_k (by omega), k1 (3 + t) (by omega)]; exact g2 t (by omega) ht j hj
  · obtain ⟨m1, m2, m3⟩ := k2 c (by omega) hc
    rw [pt_k (by omega), pt_k (by omega), pt_k (by omega), pt_k (by omega)]
    exact ⟨m1, by rw [m2, g1 (9 + 2 * c) (by omega)], m3⟩
  · rw [pt_eq, up_o (by decide), pt_eq, up_e]
  · rw [pt_eq, up_e]
theorem copy_RV {T : Nat} {kd : Nat → Int32} {cost : Int32} {th go ga : Nat → Int32} {K : Nat → Prop} {sp sp' : Nat → Int32} {r f : Nat → Nat → Int32} {a : Nat → Int32} (hT : T ≤ 6) (h : RV T kd cost th go ga K sp f a) (hs : ∀ c, c < 3 → r (9 + 2 * c) 4 = sp' c) : RV T kd cost th go ga K sp' (d_X3_copy r f) a := by
  obtain ⟨h1, h2, h3, h4, h5, h6, h7⟩ := h
  obtain ⟨g1, g2, g3, g4⟩ := copy_at (r := r) (f := f)
  refine ⟨fun t ht => ?_, fun t ht => ?_, fun c hc => ?_, fun c hc hK => ?_, fun c hc => ?_, ?_, ?_⟩
  · rw [g1 t ht 0 (by decide)]; exact h1 t ht
  · have k := g1 t (by omega)
    unfold RT
    rw [k 1 (by decide), k 2 (by decide), k 3 (by decide), k 4 (by decide), k 5 (by decide), k 6 (by decide), k 7 (by decide)]
    exact h2 t ht
  · rw [(g2 c hc).1 0 (by decide), (g2 c hc).1 1 (by decide)]; exact h3 c hc
  · unfold RC
    rw [(g2 c hc).1 2 (by decide), (g2 c hc).1 3 (by decide)]
    refine ⟨(h4 c hc hK).1, (h4 c hc hK).2.1, fun t ht => ?_⟩
    rw [(g2 c hc).2.2 t (by omega)]; exact (h4 c hc hK).2.2 t ht
  · rw [(g2 c hc).2.1]; exact hs c hc
  · rw [g3]; exact h6
  · rw [g4]; exact h7
/-- the reference's copy of 64 numbers -/
theorem mcopy {A B : Nat → Nat → Int32} {p q : Nat} (hp : p < 1000) (hq : q < 1000) : ∀ (n k : Nat) (R : Nat → Nat → Int32), k ≤ 64 → 64 < k + n → (∀ j, ¬ (q + k ≤ j ∧ j < q + 64) → d_X7_copy_L3 A (nI p) (nI q) n R k 0 j = R 0 j) ∧ ∀ j, k ≤ j → j < 64 → d_X7_copy_L3 A (nI p) (nI q) n R k 0 (q + j) = A 0 (p + j) := by
  intro n
  induction n with
  | zero => intro k R h1 h2; exact absurd h2 (by omega)
  | succ n ih =>
    intro k R h1 h2
    by_cases c1 : 64 ≤ k
    · have e : d_X7_copy_L3 A (nI p) (nI q) (n + 1) R k = R := by rw [d_X7_copy_L3]; exact if_pos (show nI 64 ≤ nI k from nI_le c1 (by omega))
      rw [e]
      exact ⟨fun _ _ => rfl, fun j h3 h4 => absurd h4 (by omega)⟩
    · have e : d_X7_copy_L3 A (nI p) (nI q) (n + 1) R k = d_X7_copy_L3 A (nI p) (nI q) n (pt R 0 (q + k) (A 0 (p + k))) (k + 1) := by
        rw [d_X7_copy_L3, nI_clamp (by omega), nI_clamp (by omega)]; exact if_neg (show ¬ nI 64 ≤ nI k from nI_ge (by omega) (by omega))
      obtain ⟨g1, g2⟩ := ih (k + 1) (pt R 0 (q + k) (A 0 (p + k))) (by omega) (by omega)
      rw [e]
      refine ⟨fun j hj => ?_, fun j h3 h4 => ?_⟩
      · rw [g1 j (by omega), pt_eq, up_o (by omega)]
      · by_cases hj : j = k
        · subst hj; rw [g1 (q + j) (by omega), pt_eq, up_e]
        · exact g2 j (by omega) h4
theorem mcopy_at {A B : Nat → Nat → Int32} {p q la lb : Nat} (hp : p < 1000) (hq : q < 1000) : (∀ j, ¬ (q ≤ j ∧ j < q + 64) → d_X7_copy A B la lb (nI p) (nI q) 0 j = B 0 j) ∧ ∀ j, j < 64 → d_X7_copy A B la lb (nI p) (nI q) 0 (q + j) = A 0 (p + j) := by
  have e : d_X7_copy A B la lb (nI p) (nI q) = d_X7_copy_L3 A (nI p) (nI q) 65 B 0 := by rw [d_X7_copy, lt]
  rw [e]
  obtain ⟨g1, g2⟩ := mcopy (A := A) (B := B) hp hq 65 0 B (by omega) (by omega)
  exact ⟨fun j hj => g1 j (by omega), fun j hj => g2 j (by omega) hj⟩
