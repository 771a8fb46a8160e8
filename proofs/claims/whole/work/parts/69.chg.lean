/-! one number of a river changed on both sides -/
theorem pt_o {R : Nat → Nat → Int32} {k j q j' : Nat} {z : Int32} (h : ¬ (q = k ∧ j' = j)) : pt R k j z q j' = R q j' := by
  by_cases e : q = k
  · subst e; rw [pt_eq, up_o (fun w => h ⟨rfl, w⟩)]
  · rw [pt_k e]
theorem pt_i {R : Nat → Nat → Int32} {k j : Nat} {z : Int32} : pt R k j z k j = z := by rw [pt_eq, up_e]
theorem shf_pt {R : Nat → Nat → Int32} {i m n j : Nat} {z : Int32} (h : m = i + n) : shf (pt R m j z) i = pt (shf R i) n j z := by
  subst h
  funext q
  show pt R (i + n) j z (i + q) = pt (shf R i) n j z q
  by_cases e : q = n
  · subst e; rw [pt_eq, pt_eq]; rfl
  · rw [pt_k (by omega), pt_k e]; rfl
theorem RG_up1 {T C k : Nat} {a : Nat → Int32} {z : Int32} (hT : T ≤ 6) (hC : C ≤ 3) (h : RG T C a) (d1 : ∀ t, t < T → k = 1 + t → rg 999 z ∧ (a (25 + t) = 1 → z = 0)) (d2 : ∀ t, t < T → k = 25 + t → z = 0) (d3 : ∀ t, t < T → k = 7 + t → rg 100 z) (d4 : ∀ c, c < C → k = 37 + c → rg 99 z) (d5 : ∀ c, c < C → k = 40 + c → rg 60 z) (d6 : ∀ c t, c < C → t < T → k = 46 + 6 * c + t → rg 1998 z) : RG T C (upd a k z) := by
  refine ⟨fun t ht => ⟨?_, ?_, ?_, ?_⟩, fun c hc => ⟨?_, ?_, fun t ht => ?_⟩⟩
  · by_cases e : 1 + t = k
    · rw [← e, up_e]; exact (d1 t ht e.symm).1
    · rw [up_o e]; exact (h.1 t ht).1
  · by_cases e : 25 + t = k
    · rw [← e, up_e]; exact Or.inl (d2 t ht e.symm)
    · rw [up_o e]; exact (h.1 t ht).2.1
  · by_cases e : 25 + t = k
    · rw [← e, up_e, d2 t ht e.symm]; intro w; exact absurd w (by decide)
    · rw [up_o e]
      intro w
      by_cases e2 : 1 + t = k
      · rw [← e2, up_e]; exact (d1 t ht e2.symm).2 w
      · rw [up_o e2]; exact (h.1 t ht).2.2.1 w
  · by_cases e : 7 + t = k
    · rw [← e, up_e]; exact d3 t ht e.symm
    · rw [up_o e]; exact (h.1 t ht).2.2.2
  · by_cases e : 37 + c = k
    · rw [← e, up_e]; exact d4 c hc e.symm
    · rw [up_o e]; exact (h.2 c hc).1
  · by_cases e : 40 + c = k
    · rw [← e, up_e]; exact d5 c hc e.symm
    · rw [up_o e]; exact (h.2 c hc).2.1
  · by_cases e : 46 + 6 * c + t = k
    · rw [← e, up_e]; exact d6 c t hc ht e.symm
    · rw [up_o e]; exact (h.2 c hc).2.2 t ht
theorem ZR_up1 {k : Nat} {a : Nat → Int32} {z : Int32} (h : ZR a) (d : ∀ t, t < 6 → k = 1 + t → rg 999 z) (d2 : ∀ t, t < 6 → k = 13 + t → rg 20 z) : ZR (upd a k z) := by
  refine fun t ht => ⟨?_, ?_⟩
  · by_cases e : 1 + t = k
    · rw [← e, up_e]; exact d t ht e.symm
    · rw [up_o e]; exact (h t ht).1
  · by_cases e : 13 + t = k
    · rw [← e, up_e]; exact d2 t ht e.symm
    · rw [up_o e]; exact (h t ht).2
def tslot (j i : Nat) : Prop := (j = 1 ∧ i = 25) ∨ (j = 3 ∧ i = 1) ∨ (j = 4 ∧ i = 7) ∨ (j = 5 ∧ i = 13) ∨ (j = 6 ∧ i = 19) ∨ (j = 7 ∧ i = 31)
theorem RS_ut {T C u j i : Nat} {kd : Nat → Int32} {cost z : Int32} {r : Nat → Nat → Int32} {a : Nat → Int32} (hT : T ≤ 6) (hC : C ≤ 3) (h : RS T C kd cost r a) (hu : u < T) (hj : tslot j i) (hRG : RG T C (upd a (i + u) z)) (hZ : ZR (upd a (i + u) z)) : RS T C kd cost (pt r (3 + u) j z) (upd a (i + u) z) := by
  unfold tslot at hj
  have g : ∀ j' i' t, tslot j' i' → t < T → r (3 + t) j' = a (i' + t) → pt r (3 + u) j z (3 + t) j' = upd a (i + u) z (i' + t) := by
    intro j' i' t hp ht e
    unfold tslot at hp
    by_cases w : t = u ∧ j' = j
    · have : i' = i := by omega
      rw [w.1, w.2, this, pt_i, up_e]
    · rw [pt_o (by omega), up_o (by omega)]; exact e
  have hb := h.2.1
  refine RS_mk h (fun t ht => pt_o (by omega)) (fun t ht => ?_) (fun c hc => ⟨by rw [pt_k (by omega)], by rw [pt_k (by omega)]⟩) (fun c hc => ?_) (fun c hc => ?_) (by rw [pt_k (by omega)]) ?_ hRG hZ
  · obtain ⟨q1, q2, q3, q4, q5, q6, q7⟩ := RS_T h ht
    unfold RT
    exact ⟨g 1 25 t (Or.inl ⟨rfl, rfl⟩) ht q1, (pt_o (by omega)).trans q2, g 3 1 t (Or.inr (Or.inl ⟨rfl, rfl⟩)) ht q3, g 4 7 t (Or.inr (Or.inr (Or.inl ⟨rfl, rfl⟩))) ht q4, g 5 13 t (Or.inr (Or.inr (Or.inr (Or.inl ⟨rfl, rfl⟩)))) ht q5, g 6 19 t (Or.inr (Or.inr (Or.inr (Or.inr (Or.inl ⟨rfl, rfl⟩))))) ht q6, g 7 31 t (Or.inr (Or.inr (Or.inr (Or.inr (Or.inr ⟨rfl, rfl⟩))))) ht q7⟩
  · rw [pt_k (by omega), up_o (by omega)]
    exact ⟨(RS_C hC h hc).2, hb c hc⟩
  · obtain ⟨q1, q2, q3⟩ := (RS_C hC h hc).1
    unfold RC
    rw [pt_k (by omega), pt_k (by omega), up_o (by omega), up_o (by omega)]
    exact ⟨q1, q2, fun t ht => by rw [up_o (by omega)]; exact q3 t ht⟩
  · rw [pt_k (by omega), up_o (by omega)]
    obtain ⟨⟨go, h1, -⟩, -⟩ := h
    exact h1.2.2.2.2.2.2
theorem RS_uc {T C u j i : Nat} {kd : Nat → Int32} {cost z : Int32} {r : Nat → Nat → Int32} {a : Nat → Int32} (hT : T ≤ 6) (hC : C ≤ 3) (h : RS T C kd cost r a) (hu : u < C) (hj : (j = 1 ∧ i = 43 ∧ (z = 0 ∨ z = 1)) ∨ (j = 2 ∧ i = 37)) (hRG : RG T C (upd a (i + u) z)) : RS T C kd cost (pt r (9 + 2 * u) j z) (upd a (i + u) z) := by
  have hb := h.2.1
  have hZ := h.2.2.2
  refine RS_mk h (fun t ht => by rw [pt_k (by omega)]) (fun t ht => ?_) (fun c hc => ⟨pt_o (by omega), pt_o (by omega)⟩) (fun c hc => ?_) (fun c hc => ?_) (by rw [pt_k (by omega)]) ?_ hRG (ZR_up1 hZ (fun t ht w => absurd w (by omega)) (fun t ht w => absurd w (by omega)))
  · obtain ⟨q1, q2, q3, q4, q5, q6, q7⟩ := RS_T h ht
    unfold RT
    rw [pt_k (by omega), up_o (by omega), up_o (by omega), up_o (by omega), up_o (by omega), up_o (by omega), up_o (by omega)]
    exact ⟨q1, q2, q3, q4, q5, q6, q7⟩
  · rcases hj with ⟨rfl, rfl, hz⟩ | ⟨rfl, rfl⟩
    · by_cases w : c = u
      · subst w; rw [pt_i, up_e]; exact ⟨rfl, hz⟩
      · rw [pt_o (by omega), up_o (by omega)]; exact ⟨(RS_C hC h hc).2, hb c hc⟩
    · rw [pt_o (by omega), up_o (by omega)]; exact ⟨(RS_C hC h hc).2, hb c hc⟩
  · obtain ⟨q1, q2, q3⟩ := (RS_C hC h hc).1
    unfold RC
    rw [pt_k (show 10 + 2 * c ≠ 9 + 2 * u by omega)]
    refine ⟨?_, ?_, fun t ht => by rw [up_o (by omega)]; exact q3 t ht⟩
    · rcases hj with ⟨rfl, rfl, hz⟩ | ⟨rfl, rfl⟩
      · rw [pt_o (by omega), up_o (by omega)]; exact q1
      · by_cases w : c = u
        · subst w; rw [pt_i, up_e]
        · rw [pt_o (by omega), up_o (by omega)]; exact q1
    · rw [pt_o (by omega), up_o (by omega)]; exact q2
  · rw [pt_k (by omega), up_o (by omega)]
    obtain ⟨⟨go, h1, -⟩, -⟩ := h
    exact h1.2.2.2.2.2.2
/-- now is put upon the past and noted: what stands, and what is wanted of now's new numbers -/
theorem noted {R M : Nat → Nat → Int32} (h : Inv R M) : ∃ T C, T ≤ 6 ∧ C ≤ 3 ∧ M 0 10 = nI T ∧ M 0 11 = nI C ∧ rg 30 (M 0 12) ∧ RS T C (M 5) (M 0 12) (shf R 22) (M 6) ∧ ∃ S u X Y, S = d_X4_put (shf R 55) (shf R 22) 8 ∧ u = d_X7_note (shf M 0) (shf M 6) (shf M 9) ∧ spl R 55 122 S = X ∧ spl (spl M 0 1 u.1) 9 1 u.2 = Y ∧ (∀ q, q < 55 → X q = R q) ∧ (∀ q, q ≠ 0 → q ≠ 9 → Y q = M q) ∧ (∀ j, j ≠ 18 → Y 0 j = M 0 j) ∧ RS T C (M 5) (M 0 12) (shf X 22) (Y 6) ∧ ∀ R' M', (∀ q, ¬ (22 ≤ q ∧ q < 37) → R' q = X q) → (∀ q, q ≠ 6 → M' q = Y q) → RS T C (M 5) (M 0 12) (shf R' 22) (M' 6) → Inv R' M' := by
  obtain ⟨T, C, hT, hC, t1, c1, k1, hl, hnow, hlaid, htr, hp, hk, hf⟩ := h
  obtain ⟨S, u, hS, hu, hu0, hsh⟩ := note_put hT hC hp hnow
  have x0 : ∀ q, ¬ (55 ≤ q ∧ q < 177) → spl R 55 122 S q = R q := fun q z => spl_out (by omega)
  have y0 : ∀ q, q ≠ 0 → q ≠ 9 → spl (spl M 0 1 u.1) 9 1 u.2 q = M q := fun q z1 z2 => by rw [spl_out (by omega), spl_out (by omega)]
  have y1 : spl (spl M 0 1 u.1) 9 1 u.2 0 = u.1 0 := by rw [spl_out (by omega), spl_in (by omega)]
  have y2 : spl (spl M 0 1 u.1) 9 1 u.2 9 = u.2 0 := by rw [spl_in (by omega)]
  have x1 : ∀ k, k < 122 → spl R 55 122 S (55 + k) = S k := fun k hk => by rw [spl_in (by omega), show 55 + k - 55 = k by omega]
  refine ⟨T, C, hT, hC, t1, c1, k1, hnow, S, u, _, _, hS.symm, hu.symm, rfl, rfl, fun q hq => x0 q (by omega), y0, fun j hj => by rw [y1]; exact hu0 j hj, ?_, fun R' M' er em hn => ?_⟩
  · rw [y0 6 (by decide) (by decide)]
    exact RS_to hT hnow (fun k hk => x0 (22 + k) (by omega))
  · refine Inv_now hT hC t1 c1 k1 hl hlaid htr hk hf (fun q z1 z2 => by rw [er q z1, x0 q z2]) (fun q z1 z2 z3 => by rw [em q z2, y0 q z1 z3]) (fun j hj => by rw [em 0 (by decide), y1]; exact hu0 j hj) hn ?_
    rw [em 0 (by decide), em 9 (by decide), y1, y2]
    refine IShelf_to hT hsh (fun k hk => ?_) (by decide)
    show R' (55 + k) = S k
    rw [er _ (by omega), x1 k (by omega)]
