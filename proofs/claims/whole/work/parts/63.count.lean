/-! sums over towns and crews -/
theorem there_eq {T : Nat} {r : Nat → Nat → Int32} (hT : T ≤ 6) (hr : ∀ t, t < 6 → (r (3 + t) 0 = 0 ↔ ¬ t < T)) : ∀ n i m, i ≤ 6 → 6 < i + n → d_X3_townsThere_L4 r n m i = m + (T - i) := by
  intro n
  induction n with
  | zero => intro i m h1 h2; exact absurd h2 (by omega)
  | succ n ih =>
    intro i m h1 h2
    rw [d_X3_townsThere_L4]
    by_cases c1 : 6 ≤ i
    · rw [if_pos (nI_le c1 (by omega))]; omega
    · rw [if_neg (nI_ge (by omega) (by omega))]
      by_cases c2 : i < T
      · rw [if_neg (fun z => ((hr i (by omega)).mp z) c2), ih _ _ (by omega) (by omega)]; omega
      · rw [if_pos ((hr i (by omega)).mpr c2), ih _ _ (by omega) (by omega)]; omega
theorem townsThere_eq {T : Nat} {r : Nat → Nat → Int32} (hT : T ≤ 6) (hr : ∀ t, t < 6 → (r (3 + t) 0 = 0 ↔ ¬ t < T)) : d_X3_townsThere r = nI T := by
  rw [d_X3_townsThere, lt, there_eq hT hr 7 0 0 (by omega) (by omega)]
  congr 1
  omega
theorem cthere_eq {C : Nat} {r : Nat → Nat → Int32} (hC : C ≤ 3) (hr : ∀ c, c < 3 → (r (9 + 2 * c) 0 = 0 ↔ ¬ c < C)) : ∀ n i m, i ≤ 3 → 3 < i + n → d_X3_crewsThere_L4 r n m i = m + (C - i) := by
  intro n
  induction n with
  | zero => intro i m h1 h2; exact absurd h2 (by omega)
  | succ n ih =>
    intro i m h1 h2
    rw [d_X3_crewsThere_L4]
    by_cases c1 : 3 ≤ i
    · rw [if_pos (nI_le c1 (by omega))]; omega
    · rw [if_neg (nI_ge (by omega) (by omega))]
      by_cases c2 : i < C
      · rw [if_neg (fun z => ((hr i (by omega)).mp z) c2), ih _ _ (by omega) (by omega)]; omega
      · rw [if_pos ((hr i (by omega)).mpr c2), ih _ _ (by omega) (by omega)]; omega
theorem crewsThere_eq {C : Nat} {r : Nat → Nat → Int32} (hC : C ≤ 3) (hr : ∀ c, c < 3 → (r (9 + 2 * c) 0 = 0 ↔ ¬ c < C)) : d_X3_crewsThere r = nI C := by
  rw [d_X3_crewsThere, lt, cthere_eq hC hr 4 0 0 (by omega) (by omega)]
  congr 1
  omega
theorem burnt_eq {T C : Nat} {kd : Nat → Int32} {cost : Int32} {r Q S : Nat → Nat → Int32} (hT : T ≤ 6) (hQ : Q 0 10 = nI T) (h : RS T C kd cost r (S 0)) : ∀ n i m, i ≤ 6 → 6 < i + n → d_X7_burntOf_L4 Q S n (nI m) i = nI (d_X3_townsBurnt_L4 r n m i) := by
  intro n
  induction n with
  | zero => intro i m h1 h2; exact absurd h2 (by omega)
  | succ n ih =>
    intro i m h1 h2
    have hr := RS_t h
    by_cases c1 : 6 ≤ i
    · rw [d_X3_townsBurnt_L4, if_pos (nI_le c1 (by omega)), d_X7_burntOf_L4, if_pos (by rw [hQ]; exact nI_le (by omega) (by omega))]
    · rw [d_X3_townsBurnt_L4, if_neg (nI_ge (by omega) (by omega))]
      by_cases c2 : i < T
      · have q1 := (RS_T h c2).1
        have b := (h.2.2.1.1 i c2).2.1
        rw [if_neg (fun z => ((hr i (by omega)).mp z) c2), d_X7_burntOf_L4, if_neg (by rw [hQ]; exact nI_ge c2 (by omega)), q1]
        rcases b with b | b
        · rw [b, if_pos rfl, Int32.add_zero]; exact ih _ _ (by omega) (by omega)
        · rw [b, if_neg (by decide), nI_1]; exact ih _ _ (by omega) (by omega)
      · rw [if_pos ((hr i (by omega)).mpr c2), d_X7_burntOf_L4, if_pos (by rw [hQ]; exact nI_le (by omega) (by omega)), ← ih (i + 1) m (by omega) (by omega)]
        cases n with
        | zero => exact absurd h2 (by omega)
        | succ k => rw [d_X7_burntOf_L4, if_pos (by rw [hQ]; exact nI_le (by omega) (by omega))]
theorem townsBurnt_eq {T C : Nat} {kd : Nat → Int32} {cost : Int32} {r Q S : Nat → Nat → Int32} (hT : T ≤ 6) (hQ : Q 0 10 = nI T) (h : RS T C kd cost r (S 0)) : d_X3_townsBurnt r = d_X7_burntOf Q S := by
  rw [d_X3_townsBurnt, lt, d_X7_burntOf, lt, ← burnt_eq hT hQ h 7 0 0 (by omega) (by omega), nI_0]
theorem silver_eq {T C : Nat} {kd : Nat → Int32} {cost : Int32} {r Q S : Nat → Nat → Int32} (hT : T ≤ 6) (hQ : Q 0 10 = nI T) (h : RS T C kd cost r (S 0)) : ∀ n i x, i ≤ 6 → 6 < i + n → d_X7_silverOf_L4 Q S n x i = d_X3_silverOfAll_L4 r n x i := by
  intro n
  induction n with
  | zero => intro i m h1 h2; exact absurd h2 (by omega)
  | succ n ih =>
    intro i x h1 h2
    have hr := RS_t h
    by_cases c1 : 6 ≤ i
    · rw [d_X3_silverOfAll_L4, if_pos (nI_le c1 (by omega)), d_X7_silverOf_L4, if_pos (by rw [hQ]; exact nI_le (by omega) (by omega))]
    · rw [d_X3_silverOfAll_L4, if_neg (nI_ge (by omega) (by omega)), lt, stands_eq]
      show _ = if (if ¬ r (3 + i + 0) 0 = 0 ∧ r (3 + i + 0) 1 = 0 then (1 : Int32) else 0) = 0 then _ else _
      rw [show 3 + i + 0 = 3 + i by omega]
      by_cases c2 : i < T
      · have q1 := (RS_T h c2).1
        have q3 := (RS_T h c2).2.2.1
        have b := (h.2.2.1.1 i c2).2.1
        have hb := (h.2.2.1.1 i c2).2.2.1
        have hth : ¬ r (3 + i) 0 = 0 := fun z => ((hr i (by omega)).mp z) c2
        rw [d_X7_silverOf_L4, if_neg (by rw [hQ]; exact nI_ge c2 (by omega)), q1, q3]
        rcases b with b | b
        · rw [if_pos (show ¬ r (3 + i) 0 = 0 ∧ S 0 (25 + i) = 0 from ⟨hth, b⟩), if_neg (show ¬ (1 : Int32) = 0 by decide)]
          exact ih _ _ (by omega) (by omega)
        · rw [if_neg (fun z : ¬ r (3 + i) 0 = 0 ∧ S 0 (25 + i) = 0 => by have := z.2; rw [b] at this; exact absurd this (by decide)), if_pos rfl, hb b, Int32.add_zero]
          exact ih _ _ (by omega) (by omega)
      · rw [if_neg (fun z : ¬ r (3 + i) 0 = 0 ∧ r (3 + i) 1 = 0 => z.1 ((hr i (by omega)).mpr c2)), if_pos rfl, d_X7_silverOf_L4, if_pos (by rw [hQ]; exact nI_le (by omega) (by omega)), ← ih (i + 1) x (by omega) (by omega)]
        cases n with
        | zero => exact absurd h2 (by omega)
        | succ k => rw [d_X7_silverOf_L4, if_pos (by rw [hQ]; exact nI_le (by omega) (by omega))]
theorem silverOf_eq {T C : Nat} {kd : Nat → Int32} {cost : Int32} {r Q S : Nat → Nat → Int32} (hT : T ≤ 6) (hQ : Q 0 10 = nI T) (h : RS T C kd cost r (S 0)) : d_X3_silverOfAll r = d_X7_silverOf Q S := by
  rw [d_X3_silverOfAll, lt, d_X7_silverOf, lt, silver_eq hT hQ h 7 0 0 (by omega) (by omega)]
theorem gone_eq {T C : Nat} {kd : Nat → Int32} {cost : Int32} {r M : Nat → Nat → Int32} (hC : C ≤ 3) (hQ : M 0 11 = nI C) (h : RS T C kd cost r (M 6)) : ∀ n i m, i ≤ 3 → 3 < i + n → d_X7_count_L4 M n (nI m) i = nI (d_X3_crewsGone_L4 r n m i) := by
  intro n
  induction n with
  | zero => intro i m h1 h2; exact absurd h2 (by omega)
  | succ n ih =>
    intro i m h1 h2
    have hr := RS_c h
    by_cases c1 : 3 ≤ i
    · rw [d_X3_crewsGone_L4, if_pos (nI_le c1 (by omega)), d_X7_count_L4, if_pos (by rw [hQ]; exact nI_le (by omega) (by omega))]
    · rw [d_X3_crewsGone_L4, if_neg (nI_ge (by omega) (by omega))]
      by_cases c2 : i < C
      · have q1 := (RS_C hC h c2).2
        have b := h.2.1 i c2
        rw [if_neg (fun z => ((hr i (by omega)).mp z) c2), d_X7_count_L4, if_neg (by rw [hQ]; exact nI_ge c2 (by omega)), q1]
        rcases b with b | b
        · rw [b, if_pos rfl, Int32.add_zero]; exact ih _ _ (by omega) (by omega)
        · rw [b, if_neg (by decide), nI_1]; exact ih _ _ (by omega) (by omega)
      · rw [if_pos ((hr i (by omega)).mpr c2), d_X7_count_L4, if_pos (by rw [hQ]; exact nI_le (by omega) (by omega)), ← ih (i + 1) m (by omega) (by omega)]
        cases n with
        | zero => exact absurd h2 (by omega)
        | succ k => rw [d_X7_count_L4, if_pos (by rw [hQ]; exact nI_le (by omega) (by omega))]
theorem s_count {R M : Nat → Nat → Int32} {what : Int32} (h : Inv R M) : d_X6_count R what = d_X7_count M what := by
  obtain ⟨T, C, hT, hC, t1, c1, k1, ⟨n, hn, hx, hy, hl⟩, hnow, hlaid, htr, ⟨m, hm, p1, p2, hp⟩, ⟨k, hk, v1, v2, hv⟩, ⟨f, hf, f1, f2, hff⟩⟩ := h
  have hg : d_X3_crewsGone (shf R 22) = d_X7_count_L4 M 4 0 0 := by
    rw [d_X3_crewsGone, lt, ← gone_eq hC c1 hnow 4 0 0 (by omega) (by omega), nI_0]
  unfold d_X6_count d_X7_count
  simp only [lt]
  rw [townsThere_eq hT (RS_t hnow), crewsThere_eq hC (RS_c hnow), townsBurnt_eq (Q := shf M 0) (S := shf M 6) hT t1 hnow, silverOf_eq (Q := shf M 0) (S := shf M 6) hT t1 hnow, hg, t1, c1, p2, v2, f2, hy, hx, show R 55 1 = nI m from p1, show R 177 1 = nI k from v1, show R 209 3 = nI f from f1]
  have h22 : R 22 3 = M 6 0 := by
    obtain ⟨⟨go, hRV, -⟩, -⟩ := hnow
    exact hRV.2.2.2.2.2.2
  rw [h22]
