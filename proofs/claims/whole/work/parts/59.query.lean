/-! towns and crews by their numbers; the pairs that only ask -/
theorem sub1 {T : Nat} (hT : T ≤ 6) : (nI T - 1).toInt = (T : Int) - 1 := by
  rw [Int32.toInt_sub, nI_toInt (by omega)]
  have e : (1 : Int32).toInt = 1 := by decide
  rw [e]
  exact Int.bmod_eq_of_le (by omega) (by omega)
theorem in_cases {t : Int32} {T : Nat} (hT : T ≤ 6) : (∃ k, k < T ∧ t = nI k ∧ d_X7_in t 0 (nI T - 1) = 1) ∨ ((t < 0 ∨ ∃ k, t = nI k ∧ k < 2 ^ 31 ∧ T ≤ k) ∧ d_X7_in t 0 (nI T - 1) = 0) := by
  by_cases h0 : t < 0
  · exact Or.inr ⟨Or.inl h0, by rw [in_eq, if_pos (Or.inl h0)]⟩
  · obtain ⟨k, hk, rfl⟩ : ∃ k, k < 2 ^ 31 ∧ t = nI k := by
      have h1 := h0
      rw [Int32.lt_iff_toInt_lt] at h1
      have e0 : (0 : Int32).toInt = 0 := by decide
      rw [e0] at h1
      have h2 := Int32.toInt_lt t
      refine ⟨t.toInt.toNat, by omega, ?_⟩
      apply Int32.toInt_inj.mp
      rw [nI_toInt (by omega)]
      omega
    have key : nI T - 1 < nI k ↔ T ≤ k := by
      rw [Int32.lt_iff_toInt_lt, sub1 hT, nI_toInt hk]
      omega
    by_cases h3 : T ≤ k
    · exact Or.inr ⟨Or.inr ⟨k, rfl, hk, h3⟩, by rw [in_eq, if_pos (Or.inr (key.mpr h3))]⟩
    · exact Or.inl ⟨k, by omega, rfl, by rw [in_eq, if_neg (fun z => z.elim h0 (fun w => h3 (key.mp w)))]⟩
theorem town_cases {T : Nat} {r Q : Nat → Nat → Int32} {t : Int32} (hT : T ≤ 6) (hQ : Q 0 10 = nI T) (hr : ∀ t, t < 6 → (r (3 + t) 0 = 0 ↔ ¬ t < T)) : (∃ k, k < T ∧ t = nI k ∧ d_X3_townAt r t = some k ∧ d_X7_isTown Q t = 1) ∨ (d_X3_townAt r t = none ∧ d_X7_isTown Q t = 0) := by
  have e : d_X7_isTown Q t = d_X7_in t 0 (nI T - 1) := by rw [d_X7_isTown, lt, hQ]
  rw [e]
  rcases in_cases (t := t) hT with ⟨k, hk, rfl, h1⟩ | ⟨h2, h1⟩
  · refine Or.inl ⟨k, hk, rfl, ?_, h1⟩
    unfold d_X3_townAt
    rw [if_neg (nI_pos (by omega)), if_neg (nI_ge (by omega) (by omega)), nI_clamp (by omega), if_neg (fun z => ((hr k (by omega)).mp z) hk)]
  · refine Or.inr ⟨?_, h1⟩
    unfold d_X3_townAt
    rcases h2 with h2 | ⟨k, rfl, hk, hTk⟩
    · rw [if_pos h2]
    · rw [if_neg (nI_pos hk)]
      by_cases h6 : 6 ≤ k
      · rw [if_pos (nI_le h6 hk)]
      · rw [if_neg (nI_ge (by omega) (by omega)), nI_clamp hk, if_pos ((hr k (by omega)).mpr (by omega))]
theorem crew_cases {C : Nat} {r Q : Nat → Nat → Int32} {c : Int32} (hC : C ≤ 3) (hQ : Q 0 11 = nI C) (hr : ∀ c, c < 3 → (r (9 + 2 * c) 0 = 0 ↔ ¬ c < C)) : (∃ k, k < C ∧ c = nI k ∧ d_X3_crewAt r c = some k ∧ d_X7_isCrew Q c = 1) ∨ (d_X3_crewAt r c = none ∧ d_X7_isCrew Q c = 0) := by
  have e : d_X7_isCrew Q c = d_X7_in c 0 (nI C - 1) := by rw [d_X7_isCrew, lt, hQ]
  rw [e]
  rcases in_cases (t := c) (T := C) (by omega) with ⟨k, hk, rfl, h1⟩ | ⟨h2, h1⟩
  · refine Or.inl ⟨k, hk, rfl, ?_, h1⟩
    unfold d_X3_crewAt
    rw [if_neg (nI_pos (by omega)), if_neg (nI_ge (by omega) (by omega)), nI_clamp (by omega), if_neg (fun z => ((hr k (by omega)).mp z) hk)]
  · refine Or.inr ⟨?_, h1⟩
    unfold d_X3_crewAt
    rcases h2 with h2 | ⟨k, rfl, hk, hTk⟩
    · rw [if_pos h2]
    · rw [if_neg (nI_pos hk)]
      by_cases h6 : 3 ≤ k
      · rw [if_pos (nI_le h6 hk)]
      · rw [if_neg (nI_ge (by omega) (by omega)), nI_clamp hk, if_pos ((hr k (by omega)).mpr (by omega))]
theorem RS_t {T C : Nat} {kd : Nat → Int32} {cost : Int32} {r : Nat → Nat → Int32} {a : Nat → Int32} (h : RS T C kd cost r a) : ∀ t, t < 6 → (r (3 + t) 0 = 0 ↔ ¬ t < T) := by
  obtain ⟨⟨go, h1, h2⟩, h3⟩ := h
  exact h1.1
theorem RS_c {T C : Nat} {kd : Nat → Int32} {cost : Int32} {r : Nat → Nat → Int32} {a : Nat → Int32} (h : RS T C kd cost r a) : ∀ c, c < 3 → (r (9 + 2 * c) 0 = 0 ↔ ¬ c < C) := by
  obtain ⟨⟨go, h1, h2⟩, h3⟩ := h
  intro c hc
  rw [(h1.2.2.1 c hc).1]
  unfold th1
  by_cases z : c < C
  · rw [if_pos z]; exact ⟨fun w => absurd w (by decide), fun w => absurd z w⟩
  · rw [if_neg z]; exact ⟨fun _ => z, fun _ => rfl⟩
/-- a town's numbers -/
theorem RS_T {T C : Nat} {kd : Nat → Int32} {cost : Int32} {r : Nat → Nat → Int32} {a : Nat → Int32} (h : RS T C kd cost r a) {t : Nat} (ht : t < T) : RT kd r a t := by
  obtain ⟨⟨go, h1, h2⟩, h3⟩ := h
  exact h1.2.1 t ht
/-- a crew's numbers -/
theorem RS_C {T C : Nat} {kd : Nat → Int32} {cost : Int32} {r : Nat → Nat → Int32} {a : Nat → Int32} (hC : C ≤ 3) (h : RS T C kd cost r a) {c : Nat} (hc : c < C) : RC T r a c ∧ r (9 + 2 * c) 1 = a (43 + c) := by
  obtain ⟨⟨go, h1, h2⟩, h3⟩ := h
  refine ⟨h1.2.2.2.1 c (by omega) hc, ?_⟩
  rw [(h1.2.2.1 c (by omega)).2.1]; exact h2 c hc
theorem s_believes {R M : Nat → Nat → Int32} {c t : Int32} (h : Inv R M) : d_X6_believes R c t = d_X7_believes M c t := by
  obtain ⟨T, C, hT, hC, t1, c1, k1, hlet, hnow, -⟩ := h
  unfold d_X6_believes d_X7_believes
  rcases crew_cases (Q := shf M 0) (c := c) hC c1 (RS_c hnow) with ⟨k, hk, rfl, e1, e2⟩ | ⟨e1, e2⟩
  · rw [e1, e2]
    rcases town_cases (Q := shf M 0) (t := t) hT t1 (RS_t hnow) with ⟨u, hu, rfl, e3, e4⟩ | ⟨e3, e4⟩
    · rw [e3, e4]
      simp only [oc, lt]
      have hb : d_X0_beliefOf (shf R (31 + 2 * k)) (nI u) = R (32 + 2 * k) u := by
        unfold d_X0_beliefOf
        rw [if_neg (nI_pos (by omega)), if_neg (nI_ge (by omega) (by omega)), nI_clamp (by omega)]
        show R (31 + 2 * k + 1) u = _
        rw [show 31 + 2 * k + 1 = 32 + 2 * k by omega]
      have hq := (RS_C hC hnow hk).1.2.2 u hu
      have hq2 : R (22 + (10 + 2 * k)) u = M 6 (46 + 6 * k + u) := hq
      rw [show 22 + (10 + 2 * k) = 32 + 2 * k by omega] at hq2
      first
        | (rw [hb, nI_clamp (by omega), nI_clamp (by omega), hq2]; rfl)
        | (simp only [nI_clamp (show k < 2 ^ 31 by omega), nI_clamp (show u < 2 ^ 31 by omega), hb, hq2]; rfl)
    · rw [e3, e4]; rfl
  · rw [e1, e2]; rfl
