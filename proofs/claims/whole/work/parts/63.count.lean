/-! sums over towns and crews -/
theorem there_eq {T : Nat} {r : Nat → Nat → Int32} (hT : T ≤ 6) (hr : ∀ t, t < 6 → (r (3 + t) 0 = 0 ↔ ¬ t < T)) : ∀ n i m, i ≤ 6 → 6 < i + n → d_X3_townsThere_L4 r n m i = m + (T - i) := by
  intro n
  induction n with
  | zero => intro i m h1 h2; exact absurd h2 (by omega)
  | succ n ih =>
    intro i m h1 h2
    rw [d_X3_townsThere_L4]
    by_cases c1 : 6 ≤ i
    · rw [if_pos (nI_le c1 (by omega))]; omega
    · rw [if_neg (nI_ge (by omega) (by omega))]
      by_cases c2 : i < T
      · rw [if_neg (fun z => ((hr i (by omega)).mp z) c2), ih _ _ (by omega) (by omega)]; omega
      · rw [if_pos ((hr i (by omega)).mpr c2), ih _ _ (by omega) (by omega)]; omega
theorem townsThere_eq {T : Nat} {r : Nat → Nat → Int32} (hT : T ≤ 6) (hr : ∀ t, t < 6 → (r (3 + t) 0 = 0 ↔ ¬ t < T)) : d_X3_townsThere r = nI T := by
  rw [d_X3_townsThere, lt, there_eq hT hr 7 0 0 (by omega) (by omega)]
  congr 1
  omega
theorem cthere_eq {C : Nat} {r : Nat → Nat → Int32} (hC : C ≤ 3) (hr : ∀ c, c < 3 → (r (9 + 2 * c) 0 = 0 ↔ ¬ c < C)) : ∀ n i m, i ≤ 3 → 3 < i + n → d_X3_crewsThere_L4 r n m i = m + (C - i) := by
  intro n
  induction n with
  | zero => intro i m h1 h2; exact absurd h2 (by omega)
  | succ n ih =>
    intro i m h1 h2
    rw [d_X3_crewsThere_L4]
    by_cases c1 : 3 ≤ i
    · rw [if_pos (nI_le c1 (by omega))]; omega
    · rw [if_neg (nI_ge (by omega) (by omega))]
      by_cases c2 : i < C
      · rw [if_neg (fun z => ((hr i (by omega)).mp z) c2), ih _ _ (by omega) (by omega)]; omega
      · rw [if_pos ((hr i (by omega)).mpr c2), ih _ _ (by omega) (by omega)]; omega
theorem crewsThere_eq {C : Nat} {r : Nat → Nat → Int32} (hC : C ≤ 3) (hr : ∀ c, c < 3 → (r (9 + 2 * c) 0 = 0 ↔ ¬ c < C)) : d_X3_crewsThere r = nI C := by
  rw [d_X3_crewsThere, lt, cthere_eq hC hr 4 0 0 (by omega) (by omega)]
  congr 1
  omega
