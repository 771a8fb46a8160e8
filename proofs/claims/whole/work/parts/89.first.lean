/-! the first state -/
theorem rg_of {N : Nat} {x : Int32} (h : x = nI x.toNatClampNeg ∧ x.toNatClampNeg ≤ N) : rg N x := ⟨x.toNatClampNeg, h.2, h.1⟩
theorem f_now_t : ∀ t, t < 6 → (shf R6 22 (3 + t) 0 = 0 ↔ ¬ t < 4) := by decide +kernel
theorem f_now_T : ∀ t, t < 4 → (shf R6 22 (3 + t) 1 = M8 6 (25 + t) ∧ shf R6 22 (3 + t) 2 = M8 5 t ∧ shf R6 22 (3 + t) 3 = M8 6 (1 + t) ∧ shf R6 22 (3 + t) 4 = M8 6 (7 + t) ∧ shf R6 22 (3 + t) 5 = M8 6 (13 + t) ∧ shf R6 22 (3 + t) 6 = M8 6 (19 + t) ∧ shf R6 22 (3 + t) 7 = M8 6 (31 + t)) := by decide +kernel
theorem f_now_c : ∀ c, c < 3 → (shf R6 22 (9 + 2 * c) 0 = th1 2 c ∧ shf R6 22 (9 + 2 * c) 1 = M8 6 (43 + c) ∧ M8 6 (43 + c) = 0 ∧ shf R6 22 (9 + 2 * c) 4 = 0) := by decide +kernel
theorem f_now_C : ∀ c, c < 2 → (shf R6 22 (9 + 2 * c) 2 = M8 6 (37 + c) ∧ shf R6 22 (9 + 2 * c) 3 = M8 6 (40 + c) ∧ ∀ t, t < 4 → shf R6 22 (10 + 2 * c) t = M8 6 (46 + 6 * c + t)) := by decide +kernel
theorem f_now_0 : shf R6 22 0 2 = M8 0 12 ∧ shf R6 22 0 3 = M8 6 0 := by decide +kernel
theorem f_now_G : ∀ t, t < 4 → ((M8 6 (1 + t) = nI (M8 6 (1 + t)).toNatClampNeg ∧ (M8 6 (1 + t)).toNatClampNeg ≤ 999) ∧ M8 6 (25 + t) = 0 ∧ (M8 6 (7 + t) = nI (M8 6 (7 + t)).toNatClampNeg ∧ (M8 6 (7 + t)).toNatClampNeg ≤ 100)) := by decide +kernel
theorem f_now_H : ∀ c, c < 2 → ((M8 6 (37 + c) = nI (M8 6 (37 + c)).toNatClampNeg ∧ (M8 6 (37 + c)).toNatClampNeg ≤ 99) ∧ (M8 6 (40 + c) = nI (M8 6 (40 + c)).toNatClampNeg ∧ (M8 6 (40 + c)).toNatClampNeg ≤ 60) ∧ ∀ t, t < 4 → (M8 6 (46 + 6 * c + t) = nI (M8 6 (46 + 6 * c + t)).toNatClampNeg ∧ (M8 6 (46 + 6 * c + t)).toNatClampNeg ≤ 1998)) := by decide +kernel
theorem f_now_Z : ∀ t, t < 6 → ((M8 6 (1 + t) = nI (M8 6 (1 + t)).toNatClampNeg ∧ (M8 6 (1 + t)).toNatClampNeg ≤ 999) ∧ (M8 6 (13 + t) = nI (M8 6 (13 + t)).toNatClampNeg ∧ (M8 6 (13 + t)).toNatClampNeg ≤ 20)) := by decide +kernel
theorem f_now : RS 4 2 (M8 5) (M8 0 12) (shf R6 22) (M8 6) :=
  ⟨⟨fun c => M8 6 (43 + c), ⟨f_now_t, fun t ht => f_now_T t ht, fun c hc => ⟨(f_now_c c hc).1, (f_now_c c hc).2.1, rfl⟩, fun c hc hK => f_now_C c hK, fun c hc => (f_now_c c hc).2.2.2, f_now_0.1, f_now_0.2⟩, fun c hc => rfl⟩, fun c hc => Or.inl (f_now_c c (by omega)).2.2.1, ⟨fun t ht => ⟨rg_of (f_now_G t ht).1, Or.inl (f_now_G t ht).2.1, fun w => absurd w (by rw [(f_now_G t ht).2.1]; decide), rg_of (f_now_G t ht).2.2⟩, fun c hc => ⟨rg_of (f_now_H c hc).1, rg_of (f_now_H c hc).2.1, fun t ht => rg_of ((f_now_H c hc).2.2 t ht)⟩⟩, fun t ht => ⟨rg_of (f_now_Z t ht).1, rg_of (f_now_Z t ht).2⟩⟩
theorem f_laid_t : ∀ t, t < 6 → (shf R6 4 (3 + t) 0 = 0 ↔ ¬ t < 4) := by decide +kernel
theorem f_laid_T : ∀ t, t < 4 → (shf R6 4 (3 + t) 1 = M8 7 (25 + t) ∧ shf R6 4 (3 + t) 2 = M8 5 t ∧ shf R6 4 (3 + t) 3 = M8 7 (1 + t) ∧ shf R6 4 (3 + t) 4 = M8 7 (7 + t) ∧ shf R6 4 (3 + t) 5 = M8 7 (13 + t) ∧ shf R6 4 (3 + t) 6 = M8 7 (19 + t) ∧ shf R6 4 (3 + t) 7 = M8 7 (31 + t)) := by decide +kernel
theorem f_laid_c : ∀ c, c < 3 → (shf R6 4 (9 + 2 * c) 0 = th1 2 c ∧ shf R6 4 (9 + 2 * c) 1 = M8 7 (43 + c) ∧ M8 7 (43 + c) = 0 ∧ shf R6 4 (9 + 2 * c) 4 = 0) := by decide +kernel
theorem f_laid_C : ∀ c, c < 2 → (shf R6 4 (9 + 2 * c) 2 = M8 7 (37 + c) ∧ shf R6 4 (9 + 2 * c) 3 = M8 7 (40 + c) ∧ ∀ t, t < 4 → shf R6 4 (10 + 2 * c) t = M8 7 (46 + 6 * c + t)) := by decide +kernel
theorem f_laid_0 : shf R6 4 0 2 = M8 0 12 ∧ shf R6 4 0 3 = M8 7 0 := by decide +kernel
theorem f_laid_G : ∀ t, t < 4 → ((M8 7 (1 + t) = nI (M8 7 (1 + t)).toNatClampNeg ∧ (M8 7 (1 + t)).toNatClampNeg ≤ 999) ∧ M8 7 (25 + t) = 0 ∧ (M8 7 (7 + t) = nI (M8 7 (7 + t)).toNatClampNeg ∧ (M8 7 (7 + t)).toNatClampNeg ≤ 100)) := by decide +kernel
theorem f_laid_H : ∀ c, c < 2 → ((M8 7 (37 + c) = nI (M8 7 (37 + c)).toNatClampNeg ∧ (M8 7 (37 + c)).toNatClampNeg ≤ 99) ∧ (M8 7 (40 + c) = nI (M8 7 (40 + c)).toNatClampNeg ∧ (M8 7 (40 + c)).toNatClampNeg ≤ 60) ∧ ∀ t, t < 4 → (M8 7 (46 + 6 * c + t) = nI (M8 7 (46 + 6 * c + t)).toNatClampNeg ∧ (M8 7 (46 + 6 * c + t)).toNatClampNeg ≤ 1998)) := by decide +kernel
theorem f_laid_Z : ∀ t, t < 6 → ((M8 7 (1 + t) = nI (M8 7 (1 + t)).toNatClampNeg ∧ (M8 7 (1 + t)).toNatClampNeg ≤ 999) ∧ (M8 7 (13 + t) = nI (M8 7 (13 + t)).toNatClampNeg ∧ (M8 7 (13 + t)).toNatClampNeg ≤ 20)) := by decide +kernel
theorem f_laid : RS 4 2 (M8 5) (M8 0 12) (shf R6 4) (M8 7) :=
  ⟨⟨fun c => M8 7 (43 + c), ⟨f_laid_t, fun t ht => f_laid_T t ht, fun c hc => ⟨(f_laid_c c hc).1, (f_laid_c c hc).2.1, rfl⟩, fun c hc hK => f_laid_C c hK, fun c hc => (f_laid_c c hc).2.2.2, f_laid_0.1, f_laid_0.2⟩, fun c hc => rfl⟩, fun c hc => Or.inl (f_laid_c c (by omega)).2.2.1, ⟨fun t ht => ⟨rg_of (f_laid_G t ht).1, Or.inl (f_laid_G t ht).2.1, fun w => absurd w (by rw [(f_laid_G t ht).2.1]; decide), rg_of (f_laid_G t ht).2.2⟩, fun c hc => ⟨rg_of (f_laid_H c hc).1, rg_of (f_laid_H c hc).2.1, fun t ht => rg_of ((f_laid_H c hc).2.2 t ht)⟩⟩, fun t ht => ⟨rg_of (f_laid_Z t ht).1, rg_of (f_laid_Z t ht).2⟩⟩
theorem f_tr : ∀ c, c < 3 → R6 (40 + (9 + 2 * c)) 4 = 0 := by decide +kernel
theorem f_p1 : ∀ j, j < 8 → shf R6 55 1 j = nI j := by decide +kernel
theorem f_p2 : ∀ w, w < 8 → ∀ c, c < 3 → shf R6 55 (2 + 15 * w + (9 + 2 * c)) 4 = 0 := by decide +kernel
theorem f_k1 : ∀ j, j < 2 → shf R6 177 1 j = nI j := by decide +kernel
theorem f_k2 : ∀ w, w < 2 → ∀ c, c < 3 → shf R6 177 (2 + 15 * w + (9 + 2 * c)) 4 = 0 := by decide +kernel
theorem f_0 : M8 0 10 = nI 4 ∧ M8 0 11 = nI 2 ∧ M8 0 12 = nI 10 ∧ R6 0 1 = nI 0 ∧ M8 0 0 = nI 0 ∧ shf R6 55 0 1 = nI 0 ∧ M8 0 18 = nI 0 ∧ shf R6 177 0 1 = nI 0 ∧ M8 0 20 = nI 0 ∧ shf R6 209 0 3 = nI 0 ∧ M8 0 21 = nI 0 := by decide +kernel
theorem f_f : ∀ i, i < 6 → (shf R6 209 2 i = nI 0 ∧ M8 11 (3 * i) = nI 0) := by decide +kernel
theorem f_b : ∀ t, t < 4 → M8 7 (25 + t) = 0 := by decide +kernel
theorem first_Inv : Inv R6 M8 := by
  obtain ⟨a1, a2, a3, a4, a5, a6, a7, a8, a9, a10, a11⟩ := f_0
  refine ⟨4, 2, by decide, by decide, a1, a2, ⟨10, by decide, a3⟩, ⟨0, by decide, a4, a5, fun j hj => absurd hj (by omega)⟩, f_now, ⟨f_laid, fun c hc => (f_laid_c c (by omega)).2.2.1, f_b⟩, f_tr, ?_, ?_, ⟨0, by decide, a10, a11, fun i hi => ⟨⟨0, by decide, (f_f i hi).1⟩, ⟨0, by decide, (f_f i hi).2⟩⟩, fun i hi => absurd hi (by omega)⟩⟩
  · exact ⟨0, by decide, a6, a7, fun j hj => ⟨j, hj, f_p1 j hj⟩, fun i j hi hj w => (nI_eq (by omega) (by omega)).mp (by rw [← f_p1 i hi, ← f_p1 j hj]; exact w), f_p2, fun i w hi => absurd hi (by omega)⟩
  · exact ⟨0, by decide, a8, a9, fun j hj => ⟨j, hj, f_k1 j hj⟩, fun i j hi hj w => (nI_eq (by omega) (by omega)).mp (by rw [← f_k1 i hi, ← f_k1 j hj]; exact w), f_k2, fun i w hi => absurd hi (by omega)⟩
