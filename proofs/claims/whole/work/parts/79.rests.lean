/-! rests -/
/-- the silver of town w after a spring with the ways p of t and q of u -/
def Vf (kd : Nat → Int32) (T C : Nat) (cost : Int32) (a : Nat → Int32) (t u p q w : Nat) : Int32 := itA kd T C cost 1 (upd (upd a (19 + t) (nI p)) (19 + u) (nI q)) (1 + w)
theorem RS_way {T C t : Nat} {kd : Nat → Int32} {cost z : Int32} {r : Nat → Nat → Int32} {a : Nat → Int32} (hT : T ≤ 6) (hC : C ≤ 3) (h : RS T C kd cost r a) (ht : t < T) : RS T C kd cost (pt r (3 + t) 6 z) (upd a (19 + t) z) :=
  RS_ut hT hC h ht (Or.inr (Or.inr (Or.inr (Or.inr (Or.inl ⟨rfl, rfl⟩))))) (RG_up1 hT hC h.2.2.1 (fun _ _ w => absurd w (by omega)) (fun _ _ w => absurd w (by omega)) (fun _ _ w => absurd w (by omega)) (fun _ _ w => absurd w (by omega)) (fun _ _ w => absurd w (by omega)) (fun _ _ _ _ w => absurd w (by omega))) (ZR_up1 h.2.2.2 (fun _ _ w => absurd w (by omega)) (fun _ _ w => absurd w (by omega)))
theorem four : ∀ c, c < 16 → nI c / 4 = nI (c / 4) ∧ nI c - nI c / 4 * 4 = nI (c % 4) := by decide
theorem try_two {T C t u s : Nat} {R0 R M0 M : Nat → Nat → Int32} (hT : T ≤ 6) (hC : C ≤ 3) (hk : rg 30 (M0 0 12)) (hnow : RS T C (M0 5) (M0 0 12) (shf R0 22) (M0 6)) (ht : t < T) (hu : u < T) (hs : s < 16) (h : TR R0 R M0 M) : ∃ R', d_X6_trySpringOf R (nI t) (nI u) (nI s) = R' ∧ TR R0 R' M0 M ∧ R' 213 = upd (R 213) s (Vf (M0 5) T C (M0 0 12) (M0 6) t u (s / 4) (s % 4) t) ∧ R' 214 = upd (R 214) s (Vf (M0 5) T C (M0 0 12) (M0 6) t u (s / 4) (s % 4) u) := by
  obtain ⟨a1, -⟩ := tr_copy hT hC h (Or.inl ⟨rfl, rfl⟩) hnow
  have a2 := tr_copy2 hT h (Or.inl ⟨rfl, rfl⟩) hnow
  obtain ⟨f1, f2⟩ := four s hs
  have cs : (nI s).toNatClampNeg = s := nI_clamp (by omega)
  have x3 : spl R 40 15 (d_X3_copy (shf R 40) (shf R 22)) 213 = R 213 := spl_out (by omega)
  have x4 : spl R 40 15 (d_X3_copy (shf R 40) (shf R 22)) 214 = R 214 := spl_out (by omega)
  have a1' : TR R0 (spl R 40 15 (d_X3_copy (shf R 40) (shf R 22))) M0 M := ⟨a1.1, h.2.1, h.2.2.1, a1.2.2.2⟩
  have b2 := RS_way (z := nI (s % 4)) hT hC (RS_way (z := nI (s / 4)) hT hC a2 ht) hu
  have b1 := (a1'.pt (q := 43 + t) (j := 6) (z := nI (s / 4)) (by omega) (Or.inl (by decide))).pt (q := 43 + u) (j := 6) (z := nI (s % 4)) (by omega) (Or.inl (by decide))
  have e6 : d_X6_trySpringOf R (nI t) (nI u) (nI s) = lt (d_X3_goBy (shf (pt (pt (spl R 40 15 (d_X3_copy (shf R 40) (shf R 22))) (43 + t) 6 (nI (s / 4))) (43 + u) 6 (nI (s % 4))) 40) (1 : Int32)) fun u40 => pt (pt (spl (pt (pt (spl R 40 15 (d_X3_copy (shf R 40) (shf R 22))) (43 + t) 6 (nI (s / 4))) (43 + u) 6 (nI (s % 4))) 40 15 u40) 213 s (spl (pt (pt (spl R 40 15 (d_X3_copy (shf R 40) (shf R 22))) (43 + t) 6 (nI (s / 4))) (43 + u) 6 (nI (s % 4))) 40 15 u40 (43 + t) 3)) 214 s (pt (spl (pt (pt (spl R 40 15 (d_X3_copy (shf R 40) (shf R 22))) (43 + t) 6 (nI (s / 4))) (43 + u) 6 (nI (s % 4))) 40 15 u40) 213 s (spl (pt (pt (spl R 40 15 (d_X3_copy (shf R 40) (shf R 22))) (43 + t) 6 (nI (s / 4))) (43 + u) 6 (nI (s % 4))) 40 15 u40 (43 + t) 3) (43 + u) 3) := by
    rw [d_X6_trySpringOf, f2, f1, cs]
    exact (lt_eq rfl).trans ((oc_some (tri_at hT a2 ht)).trans ((oc_some (tri_at hT a2 hu)).trans ((if_neg (nI_pos (by omega))).trans ((if_neg (nI_ge hs (by decide))).trans (if_pos (nI_lt hs (by decide)))))))
  generalize spl R 40 15 (d_X3_copy (shf R 40) (shf R 22)) = X at a1' b1 b2 e6 x3 x4
  rw [← shf_pt (R := X) (i := 40) (m := 43 + t) (by omega), ← shf_pt (R := pt X (43 + t) 6 (nI (s / 4))) (i := 40) (m := 43 + u) (by omega)] at b2
  have x5 : pt (pt X (43 + t) 6 (nI (s / 4))) (43 + u) 6 (nI (s % 4)) 213 = R 213 := by rw [pt_k (by omega), pt_k (by omega), x3]
  have x6 : pt (pt X (43 + t) 6 (nI (s / 4))) (43 + u) 6 (nI (s % 4)) 214 = R 214 := by rw [pt_k (by omega), pt_k (by omega), x4]
  generalize pt (pt X (43 + t) 6 (nI (s / 4))) (43 + u) 6 (nI (s % 4)) = Y at b1 b2 e6 x5 x6
  obtain ⟨d1, d2⟩ := tr_go (N := 1) hT hC hk (by decide) b1 b2
  have x7 : spl Y 40 15 (d_X3_goBy (shf Y 40) (nI 1)) 213 = R 213 := by rw [spl_out (by omega), x5]
  have x8 : spl Y 40 15 (d_X3_goBy (shf Y 40) (nI 1)) 214 = R 214 := by rw [spl_out (by omega), x6]
  have e6' := e6.trans (lt_eq (show d_X3_goBy (shf Y 40) (nI 1) = d_X3_goBy (shf Y 40) 1 from rfl))
  generalize spl Y 40 15 (d_X3_goBy (shf Y 40) (nI 1)) = Z at d1 d2 e6' x7 x8
  have p1 : Z (43 + t) 3 = Vf (M0 5) T C (M0 0 12) (M0 6) t u (s / 4) (s % 4) t := (tri_T d2 ht).2.2.1
  have p2 : Z (43 + u) 3 = Vf (M0 5) T C (M0 0 12) (M0 6) t u (s / 4) (s % 4) u := (tri_T d2 hu).2.2.1
  rw [pt_k (show 43 + u ≠ 213 by omega), p1, p2] at e6'
  refine ⟨_, e6', ⟨fun q a b => ?_, d1.2.1, d1.2.2.1, fun c hc => ?_⟩, ?_, ?_⟩
  · rw [pt_k (by omega), pt_k (by omega)]; exact d1.1 q a b
  · rw [pt_k (by omega), pt_k (by omega)]; exact d1.2.2.2 c hc
  · rw [pt_k (by decide), pt_eq, x7]
  · rw [pt_eq, pt_k (by decide), x8]
theorem try_table {T C t u : Nat} {R0 M0 M : Nat → Nat → Int32} (hT : T ≤ 6) (hC : C ≤ 3) (hk : rg 30 (M0 0 12)) (hnow : RS T C (M0 5) (M0 0 12) (shf R0 22) (M0 6)) (ht : t < T) (hu : u < T) : ∀ n s R, s ≤ 16 → 16 < s + n → TR R0 R M0 M → (∀ j, j < s → R 213 j = Vf (M0 5) T C (M0 0 12) (M0 6) t u (j / 4) (j % 4) t ∧ R 214 j = Vf (M0 5) T C (M0 0 12) (M0 6) t u (j / 4) (j % 4) u) → TR R0 (d_X6_rests_L68 (nI t) (nI u) n R s) M0 M ∧ ∀ j, j < 16 → d_X6_rests_L68 (nI t) (nI u) n R s 213 j = Vf (M0 5) T C (M0 0 12) (M0 6) t u (j / 4) (j % 4) t ∧ d_X6_rests_L68 (nI t) (nI u) n R s 214 j = Vf (M0 5) T C (M0 0 12) (M0 6) t u (j / 4) (j % 4) u := by
  intro n
  induction n with
  | zero => intro s R h1 h2; exact absurd h2 (by omega)
  | succ n ih =>
    intro s R h1 h2 h hj
    by_cases g : 16 ≤ s
    · have e : d_X6_rests_L68 (nI t) (nI u) (n + 1) R s = R := by rw [d_X6_rests_L68]; exact if_pos (nI_le (a := 16) g (by omega))
      rw [e]; exact ⟨h, fun j h3 => hj j (by omega)⟩
    · obtain ⟨R', a1, a2, a3, a4⟩ := try_two hT hC hk hnow ht hu (show s < 16 by omega) h
      have e : d_X6_rests_L68 (nI t) (nI u) (n + 1) R s = d_X6_rests_L68 (nI t) (nI u) n R' (s + 1) := by
        rw [d_X6_rests_L68]; exact (if_neg (nI_ge (b := 16) (by omega) (by decide))).trans (lt_eq a1.symm)
      rw [e]
      refine ih (s + 1) R' (by omega) (by omega) a2 (fun j h3 => ?_)
      rw [a3, a4]
      by_cases z : j = s
      · subst z; rw [up_e, up_e]; exact ⟨rfl, rfl⟩
      · rw [up_o z, up_o z]; exact hj j (by omega)
theorem more_eq {H : Nat → Nat → Int32} {a b : Nat} (ha : a < 16) (hb : b < 16) : d_X6_hasMore H (nI a) (nI b) = if H 0 a ≤ H 0 b then 0 else 1 := by
  rw [d_X6_hasMore, nI_clamp (by omega), nI_clamp (by omega)]
  exact (if_neg (nI_pos (by omega))).trans ((if_neg (nI_ge ha (by decide))).trans ((if_neg (nI_pos (by omega))).trans (if_pos (nI_lt hb (by decide)))))
/-- neither of two ways is left with more alone -/
def isP (V1 V2 : Nat → Nat → Int32) (c k : Nat) : Prop := V1 k (c % 4) ≤ V1 (c / 4) (c % 4) ∧ V2 (c / 4) k ≤ V2 (c / 4) (c % 4)
theorem four2 : ∀ k, k < 4 → ∀ c, c < 16 → nI (k * 4) + nI (c % 4) = nI (4 * k + c % 4) ∧ (nI (c / 4) * 4) + nI k = nI (4 * (c / 4) + k) := by decide
theorem isRest_eq {R : Nat → Nat → Int32} {V1 V2 : Nat → Nat → Int32} (hj : ∀ j, j < 16 → R 213 j = V1 (j / 4) (j % 4) ∧ R 214 j = V2 (j / 4) (j % 4)) {c : Nat} (hc : c < 16) : ∀ n k, k ≤ 4 → 4 < k + n → (d_X6_isRest_L11 R (nI c) n k = .inr () ∧ ∀ j, k ≤ j → j < 4 → isP V1 V2 c j) ∨ (d_X6_isRest_L11 R (nI c) n k = .inl 0 ∧ ¬ ∀ j, k ≤ j → j < 4 → isP V1 V2 c j) := by
  intro n
  induction n with
  | zero => intro k h1 h2; exact absurd h2 (by omega)
  | succ n ih =>
    intro k h1 h2
    have n1 : ¬ (1 : Int32) = 0 := by decide
    by_cases g : 4 ≤ k
    · refine Or.inl ⟨?_, fun j h3 h4 => absurd h4 (by omega)⟩
      rw [d_X6_isRest_L11]; exact if_pos (nI_le (a := 4) g (by omega))
    · obtain ⟨f1, f2⟩ := four c hc
      obtain ⟨f3, f4⟩ := four2 k (by omega) c hc
      have p1 : shf R 213 0 (4 * k + c % 4) = V1 k (c % 4) := by
        have z := (hj (4 * k + c % 4) (by omega)).1
        rw [show (4 * k + c % 4) / 4 = k by omega, show (4 * k + c % 4) % 4 = c % 4 by omega] at z; exact z
      have p2 : shf R 213 0 c = V1 (c / 4) (c % 4) := (hj c hc).1
      have p3 : shf R 214 0 (4 * (c / 4) + k) = V2 (c / 4) k := by
        have z := (hj (4 * (c / 4) + k) (by omega)).2
        rw [show (4 * (c / 4) + k) / 4 = c / 4 by omega, show (4 * (c / 4) + k) % 4 = k by omega] at z; exact z
      have p4 : shf R 214 0 c = V2 (c / 4) (c % 4) := (hj c hc).2
      have e : d_X6_isRest_L11 R (nI c) (n + 1) k = if V1 k (c % 4) ≤ V1 (c / 4) (c % 4) then (if V2 (c / 4) k ≤ V2 (c / 4) (c % 4) then d_X6_isRest_L11 R (nI c) n (k + 1) else .inl 0) else .inl 0 := by
        rw [d_X6_isRest_L11, f2, f1, f3, f4, more_eq (by omega) hc, more_eq (by omega) hc, p1, p2, p3, p4]
        refine (if_neg (nI_ge (b := 4) (by omega) (by decide))).trans ((lt_eq rfl).trans ?_)
        by_cases w1 : V1 k (c % 4) ≤ V1 (c / 4) (c % 4)
        · rw [if_pos w1, if_pos rfl, if_pos w1]
          refine (lt_eq rfl).trans ?_
          by_cases w2 : V2 (c / 4) k ≤ V2 (c / 4) (c % 4)
          · rw [if_pos w2, if_pos rfl, if_pos w2]
          · rw [if_neg w2, if_neg n1, if_neg w2]
        · rw [if_neg w1, if_neg n1, if_neg w1]
      by_cases w : isP V1 V2 c k
      · rw [if_pos w.1, if_pos w.2] at e
        rcases ih (k + 1) (by omega) (by omega) with ⟨y1, y2⟩ | ⟨y1, y2⟩
        · refine Or.inl ⟨by rw [e, y1], fun j h3 h4 => ?_⟩
          by_cases z : j = k
          · subst z; exact w
          · exact y2 j (by omega) h4
        · exact Or.inr ⟨by rw [e, y1], fun z => y2 (fun j h3 h4 => z j (by omega) h4)⟩
      · have e' : d_X6_isRest_L11 R (nI c) (n + 1) k = .inl 0 := by
          rw [e]
          by_cases w1 : V1 k (c % 4) ≤ V1 (c / 4) (c % 4)
          · rw [if_pos w1, if_neg (fun w2 => w ⟨w1, w2⟩)]
          · rw [if_neg w1]
        exact Or.inr ⟨e', fun z => w (z k (Nat.le_refl _) (by omega))⟩
theorem rest01 {R : Nat → Nat → Int32} {V1 V2 : Nat → Nat → Int32} (hj : ∀ j, j < 16 → R 213 j = V1 (j / 4) (j % 4) ∧ R 214 j = V2 (j / 4) (j % 4)) {c : Nat} (hc : c < 16) : (d_X6_isRest R (nI c) = 1 ∧ ∀ j, j < 4 → isP V1 V2 c j) ∨ (d_X6_isRest R (nI c) = 0 ∧ ¬ ∀ j, j < 4 → isP V1 V2 c j) := by
  have e : d_X6_isRest R (nI c) = sc (d_X6_isRest_L11 R (nI c) 5 0) (fun r => r) fun _ => 1 := rfl
  rcases isRest_eq hj hc 5 0 (by decide) (by decide) with ⟨y1, y2⟩ | ⟨y1, y2⟩
  · exact Or.inl ⟨by rw [e, y1]; rfl, fun j h => y2 j (Nat.zero_le _) h⟩
  · exact Or.inr ⟨by rw [e, y1]; rfl, fun z => y2 (fun j _ h => z j h)⟩
theorem rests_up {S : Nat → Nat → Int32} {g : Nat → Int32} (hp : ∀ s, s < 16 → (g s = 0 ∨ g s = 1) ∧ d_X6_isRest S (nI s) = g s) : ∀ n s, s ≤ 16 → 16 < s + n → d_X6_rests_L99 S n (nI (cnt g s)) (fst4 g s) s = (nI (cnt g 16), fst4 g 16) := by
  intro n
  induction n with
  | zero => intro s h1 h2; exact absurd h2 (by omega)
  | succ n ih =>
    intro s h1 h2
    by_cases c1 : 16 ≤ s
    · have es : s = 16 := by omega
      subst es
      rw [d_X6_rests_L99]; exact if_pos (nI_le (a := 16) (by omega) (by decide))
    · obtain ⟨b, e⟩ := hp s (by omega)
      have st : d_X6_rests_L99 S (n + 1) (nI (cnt g s)) (fst4 g s) s = d_X6_rests_L99 S n (nI (cnt g (s + 1))) (fst4 g (s + 1)) (s + 1) := by
        rw [d_X6_rests_L99, e, cnt, fst4]
        refine (if_neg (nI_ge (b := 16) (by omega) (by decide))).trans ((lt_eq rfl).trans ?_)
        rcases b with b | b
        · rw [b, if_pos rfl, if_pos rfl, if_pos rfl]
          by_cases w : fst4 g s = -4
          · rw [if_pos w, w]
          · rw [if_neg w]
        · have n1 : ¬ (1 : Int32) = 0 := by decide
          rw [b, if_neg n1, if_neg n1, if_neg n1]
          have e1 : nI (cnt g s) + Int32.ofInt 1 = nI (cnt g s + 1) := nI_inc _ rfl
          by_cases w : fst4 g s = -4
          · rw [if_pos w, if_pos w, e1]
          · rw [if_neg w, if_neg w, e1]
      rw [st]
      exact ih (s + 1) (by omega) (by omega)
/-- the reference's value -/
theorem by_eq {T C t u p q w : Nat} {R0 M0 M : Nat → Nat → Int32} (hT : T ≤ 6) (hC : C ≤ 3) (t1 : M0 0 10 = nI T) (c1 : M0 0 11 = nI C) (hk : rg 30 (M0 0 12)) (hnow : RS T C (M0 5) (M0 0 12) (shf R0 22) (M0 6)) (ht : t < T) (hu : u < T) (hw : w < T) (h : TR R0 R0 M0 M) : (d_X7_silverBy (shf M 0) (shf M 5) (shf M 6) (shf M 8) (nI t) (nI u) (nI p) (nI q) (nI w)).1 = Vf (M0 5) T C (M0 0 12) (M0 6) t u p q w ∧ TR R0 R0 M0 (spl M 8 1 (d_X7_silverBy (shf M 0) (shf M 5) (shf M 6) (shf M 8) (nI t) (nI u) (nI p) (nI q) (nI w)).2) := by
  obtain ⟨-, a2⟩ := tr_copy hT hC h (Or.inl ⟨rfl, rfl⟩) hnow
  have a3 := tr_copy2 hT h (Or.inl ⟨rfl, rfl⟩) hnow
  rw [spl_in (by omega), Nat.sub_self] at a2
  refine ⟨?_, h.m8 (fun q hq => spl_out (by omega))⟩
  have e5 : shf M 5 0 = M0 5 := h.2.1 5 (by decide) (by decide) (by decide) (by decide)
  have e12 : shf M 0 0 12 = M0 0 12 := h.2.2.1 12 (by decide)
  have hs := spring_eq (M := shf M 0) (q := shf M 5) (R := pt (pt (d_X7_copy (shf M 6) (shf M 8) 64 64 0 0) 0 (19 + t) (nI p)) 0 (19 + u) (nI q)) (T := T) (C := C) ((h.2.2.1 10 (by decide)).trans t1) hT ((h.2.2.1 11 (by decide)).trans c1) hC
  rw [e5, e12, pt_eq, pt_eq] at hs
  have e : d_X7_silverBy (shf M 0) (shf M 5) (shf M 6) (shf M 8) (nI t) (nI u) (nI p) (nI q) (nI w) = (d_X7_spring (shf M 0) (shf M 5) (pt (pt (d_X7_copy (shf M 6) (shf M 8) 64 64 0 0) 0 (19 + t) (nI p)) 0 (19 + u) (nI q)) 0 (1 + w), d_X7_spring (shf M 0) (shf M 5) (pt (pt (d_X7_copy (shf M 6) (shf M 8) 64 64 0 0) 0 (19 + t) (nI p)) 0 (19 + u) (nI q))) := by
    rw [d_X7_silverBy, nI_clamp (show t < 2 ^ 31 by omega), nI_clamp (show u < 2 ^ 31 by omega), nI_clamp (show w < 2 ^ 31 by omega)]; exact (lt_eq rfl).trans (lt_eq rfl)
  rw [e]
  dsimp only
  rw [hs]
  have g2 := RS_go hT hC hk (N := 1) (by decide) (RS_way (z := nI q) hT hC (RS_way (z := nI p) hT hC a2 ht) hu)
  have g3 := RS_go hT hC hk (N := 1) (by decide) (RS_way (z := nI q) hT hC (RS_way (z := nI p) hT hC a3 ht) hu)
  have z2 := (RS_T g2 hw).2.2.1
  have z3 := (RS_T g3 hw).2.2.1
  exact z2.symm.trans z3
theorem is_loop {T C t u c : Nat} {R0 M0 : Nat → Nat → Int32} {u5 u6 : Int32 × (Nat → Nat → Int32)} (hT : T ≤ 6) (hC : C ≤ 3) (t1 : M0 0 10 = nI T) (c1 : M0 0 11 = nI C) (hk : rg 30 (M0 0 12)) (hnow : RS T C (M0 5) (M0 0 12) (shf R0 22) (M0 6)) (ht : t < T) (hu : u < T) (hc : c < 16) (h5 : u5.1 = Vf (M0 5) T C (M0 0 12) (M0 6) t u (c / 4) (c % 4) t) (h6 : u6.1 = Vf (M0 5) T C (M0 0 12) (M0 6) t u (c / 4) (c % 4) u) : ∀ n k M, k ≤ 4 → 4 < k + n → TR R0 R0 M0 M → (∃ M', d_X7_rests_L121 (nI t) (nI u) (nI c) u5 u6 n M 0 k = (M', 0) ∧ TR R0 R0 M0 M') ∧ ∃ M', TR R0 R0 M0 M' ∧ ((d_X7_rests_L121 (nI t) (nI u) (nI c) u5 u6 n M 1 k = (M', 1) ∧ ∀ j, k ≤ j → j < 4 → isP (fun p q => Vf (M0 5) T C (M0 0 12) (M0 6) t u p q t) (fun p q => Vf (M0 5) T C (M0 0 12) (M0 6) t u p q u) c j) ∨ (d_X7_rests_L121 (nI t) (nI u) (nI c) u5 u6 n M 1 k = (M', 0) ∧ ¬ ∀ j, k ≤ j → j < 4 → isP (fun p q => Vf (M0 5) T C (M0 0 12) (M0 6) t u p q t) (fun p q => Vf (M0 5) T C (M0 0 12) (M0 6) t u p q u) c j)) := by
  intro n
  induction n with
  | zero => intro k M h1 h2; exact absurd h2 (by omega)
  | succ n ih =>
    intro k M h1 h2 h
    have n1 : ¬ (1 : Int32) = 0 := by decide
    by_cases g : 4 ≤ k
    · have e : ∀ x, d_X7_rests_L121 (nI t) (nI u) (nI c) u5 u6 (n + 1) M x k = (M, x) := fun x => by
        rw [d_X7_rests_L121]; exact if_pos (nI_le (a := 4) g (by omega))
      rw [e, e]
      exact ⟨⟨M, rfl, h⟩, M, h, Or.inl ⟨rfl, fun j h3 h4 => absurd h4 (by omega)⟩⟩
    · have g4 : ¬ (4 : Int32) ≤ nI k := nI_ge (b := 4) (by omega) (by decide)
      obtain ⟨f1, f2⟩ := four c hc
      have e0 : d_X7_rests_L121 (nI t) (nI u) (nI c) u5 u6 (n + 1) M 0 k = d_X7_rests_L121 (nI t) (nI u) (nI c) u5 u6 n M 0 (k + 1) := by
        rw [d_X7_rests_L121]; exact (if_neg g4).trans (if_pos rfl)
      refine ⟨by rw [e0]; exact (ih (k + 1) M (by omega) (by omega) h).1, ?_⟩
      obtain ⟨v1, v2⟩ := by_eq (p := k) (q := c % 4) (w := t) hT hC t1 c1 hk hnow ht hu ht h
      have e1 : d_X7_rests_L121 (nI t) (nI u) (nI c) u5 u6 (n + 1) M 1 k = lt (d_X7_silverBy (shf M 0) (shf M 5) (shf M 6) (shf M 8) (nI t) (nI u) (nI k) (nI (c % 4)) (nI t)) fun u81 => if u5.1 < u81.1 then d_X7_rests_L121 (nI t) (nI u) (nI c) u5 u6 n (spl M 8 1 u81.2) 0 (k + 1) else lt (d_X7_silverBy (shf (spl M 8 1 u81.2) 0) (shf (spl M 8 1 u81.2) 5) (shf (spl M 8 1 u81.2) 6) (shf (spl M 8 1 u81.2) 8) (nI t) (nI u) (nI (c / 4)) (nI k) (nI u)) fun u89 => if u6.1 < u89.1 then d_X7_rests_L121 (nI t) (nI u) (nI c) u5 u6 n (spl (spl M 8 1 u81.2) 8 1 u89.2) 0 (k + 1) else d_X7_rests_L121 (nI t) (nI u) (nI c) u5 u6 n (spl (spl M 8 1 u81.2) 8 1 u89.2) 1 (k + 1) := by
        rw [d_X7_rests_L121, f2, f1]; exact (if_neg g4).trans (if_neg n1)
      generalize d_X7_silverBy (shf M 0) (shf M 5) (shf M 6) (shf M 8) (nI t) (nI u) (nI k) (nI (c % 4)) (nI t) = s1 at v1 v2 e1
      have e1' := e1.trans (lt_eq rfl)
      rw [v1, h5] at e1'
      generalize spl M 8 1 s1.2 = Y at v2 e1'
      by_cases w1 : Vf (M0 5) T C (M0 0 12) (M0 6) t u (c / 4) (c % 4) t < Vf (M0 5) T C (M0 0 12) (M0 6) t u k (c % 4) t
      · rw [if_pos w1] at e1'
        obtain ⟨M', y1, y2⟩ := (ih (k + 1) Y (by omega) (by omega) v2).1
        refine ⟨M', y2, Or.inr ⟨by rw [e1', y1], fun z => ?_⟩⟩
        exact absurd (z k (Nat.le_refl _) (by omega)).1 (Int32.not_le.mpr w1)
      · rw [if_neg w1] at e1'
        obtain ⟨x1, x2⟩ := by_eq (p := c / 4) (q := k) (w := u) hT hC t1 c1 hk hnow ht hu hu v2
        generalize d_X7_silverBy (shf Y 0) (shf Y 5) (shf Y 6) (shf Y 8) (nI t) (nI u) (nI (c / 4)) (nI k) (nI u) = s2 at x1 x2 e1'
        have e1'' := e1'.trans (lt_eq rfl)
        rw [x1, h6] at e1''
        by_cases w2 : Vf (M0 5) T C (M0 0 12) (M0 6) t u (c / 4) (c % 4) u < Vf (M0 5) T C (M0 0 12) (M0 6) t u (c / 4) k u
        · rw [if_pos w2] at e1''
          obtain ⟨M', y1, y2⟩ := (ih (k + 1) _ (by omega) (by omega) x2).1
          refine ⟨M', y2, Or.inr ⟨by rw [e1'', y1], fun z => ?_⟩⟩
          exact absurd (z k (Nat.le_refl _) (by omega)).2 (Int32.not_le.mpr w2)
        · rw [if_neg w2] at e1''
          obtain ⟨M', y0, y⟩ := (ih (k + 1) _ (by omega) (by omega) x2).2
          refine ⟨M', y0, ?_⟩
          rw [e1'']
          rcases y with ⟨y1, y2⟩ | ⟨y1, y2⟩
          · refine Or.inl ⟨y1, fun j h3 h4 => ?_⟩
            by_cases z : j = k
            · subst z; exact ⟨Int32.not_lt.mp w1, Int32.not_lt.mp w2⟩
            · exact y2 j (by omega) h4
          · exact Or.inr ⟨y1, fun z => y2 (fun j h3 h4 => z j (by omega) h4)⟩
theorem rests_down {T C t u : Nat} {R0 M0 : Nat → Nat → Int32} {g : Nat → Int32} (hT : T ≤ 6) (hC : C ≤ 3) (t1 : M0 0 10 = nI T) (c1 : M0 0 11 = nI C) (hk : rg 30 (M0 0 12)) (hnow : RS T C (M0 5) (M0 0 12) (shf R0 22) (M0 6)) (ht : t < T) (hu : u < T) (hg : ∀ c, c < 16 → (g c = 1 ∧ ∀ j, j < 4 → isP (fun p q => Vf (M0 5) T C (M0 0 12) (M0 6) t u p q t) (fun p q => Vf (M0 5) T C (M0 0 12) (M0 6) t u p q u) c j) ∨ (g c = 0 ∧ ¬ ∀ j, j < 4 → isP (fun p q => Vf (M0 5) T C (M0 0 12) (M0 6) t u p q t) (fun p q => Vf (M0 5) T C (M0 0 12) (M0 6) t u p q u) c j)) : ∀ s n c low M, s ≤ 16 → s < n → TR R0 R0 M0 M → ∃ M', d_X7_rests_L72 (nI t) (nI u) n M (nI c) low (nI s - 1) = (M', nI (c + cnt g s), if fst4 g s = -4 then low else fst4 g s) ∧ TR R0 R0 M0 M' := by
  intro s
  induction s with
  | zero =>
    intro n c low M h1 h2 h
    cases n with
    | zero => exact absurd h2 (by omega)
    | succ n => exact ⟨M, by rw [d_X7_rests_L72]; exact if_pos (by decide), h⟩
  | succ s ih =>
    intro n c low M h1 h2 h
    cases n with
    | zero => exact absurd h2 (by omega)
    | succ n =>
      have n1 : ¬ (1 : Int32) = 0 := by decide
      obtain ⟨f1, f2⟩ := four s (by omega)
      obtain ⟨v1, v2⟩ := by_eq (p := s / 4) (q := s % 4) (w := t) hT hC t1 c1 hk hnow ht hu ht h
      have ea : ∀ x, x + (0 : Int32) = x := fun x => Int32.add_zero x
      have e1 : nI c + (1 : Int32) = nI (c + 1) := nI_1 c
      have e : d_X7_rests_L72 (nI t) (nI u) (n + 1) M (nI c) low (nI (s + 1) - 1) = lt (d_X7_silverBy (shf M 0) (shf M 5) (shf M 6) (shf M 8) (nI t) (nI u) (nI (s / 4)) (nI (s % 4)) (nI t)) fun u55 => lt (d_X7_silverBy (shf (spl M 8 1 u55.2) 0) (shf (spl M 8 1 u55.2) 5) (shf (spl M 8 1 u55.2) 6) (shf (spl M 8 1 u55.2) 8) (nI t) (nI u) (nI (s / 4)) (nI (s % 4)) (nI u)) fun u61 => lt (d_X7_rests_L121 (nI t) (nI u) (nI s) u55 u61 5 (spl (spl M 8 1 u55.2) 8 1 u61.2) 1 0) fun s98 => if s98.2 = 0 then (if s98.2 = 0 then d_X7_rests_L72 (nI t) (nI u) n s98.1 (nI c) low (nI s - 1) else d_X7_rests_L72 (nI t) (nI u) n s98.1 (nI c) (nI s) (nI s - 1)) else (if s98.2 = 0 then d_X7_rests_L72 (nI t) (nI u) n s98.1 (nI (c + 1)) low (nI s - 1) else d_X7_rests_L72 (nI t) (nI u) n s98.1 (nI (c + 1)) (nI s) (nI s - 1)) := by
        rw [d_X7_rests_L72, decr1, nI_pred, f2, f1, ea, e1]; exact if_neg (nI_pos (by omega))
      generalize d_X7_silverBy (shf M 0) (shf M 5) (shf M 6) (shf M 8) (nI t) (nI u) (nI (s / 4)) (nI (s % 4)) (nI t) = s1 at v1 v2 e
      have e' := e.trans (lt_eq rfl)
      generalize spl M 8 1 s1.2 = Y at v2 e'
      obtain ⟨x1, x2⟩ := by_eq (p := s / 4) (q := s % 4) (w := u) hT hC t1 c1 hk hnow ht hu hu v2
      generalize d_X7_silverBy (shf Y 0) (shf Y 5) (shf Y 6) (shf Y 8) (nI t) (nI u) (nI (s / 4)) (nI (s % 4)) (nI u) = s2 at x1 x2 e'
      have e'' := e'.trans (lt_eq rfl)
      obtain ⟨M', y0, y⟩ := (is_loop (u5 := s1) (u6 := s2) hT hC t1 c1 hk hnow ht hu (show s < 16 by omega) v1 x1 5 0 _ (by decide) (by decide) x2).2
      rw [cnt, fst4]
      rcases y with ⟨y1, y2⟩ | ⟨y1, y2⟩
      · have b : g s = 1 := by
          rcases hg s (by omega) with ⟨b, -⟩ | ⟨-, b⟩
          · exact b
          · exact absurd (fun j hj => y2 j (Nat.zero_le _) hj) b
        have e3 := e''.trans (lt_eq y1.symm)
        dsimp only at e3
        rw [if_neg n1, if_neg n1] at e3
        obtain ⟨M2, z1, z2⟩ := ih n (c + 1) (nI s) M' (by omega) (by omega) y0
        refine ⟨M2, ?_, z2⟩
        rw [e3, z1, b, if_neg n1, if_neg n1, show c + 1 + cnt g s = c + (cnt g s + 1) by omega]
        by_cases w : fst4 g s = -4
        · rw [if_pos w, if_neg (nI_ne4 (by omega))]
        · rw [if_neg w, if_neg w]
      · have b : g s = 0 := by
          rcases hg s (by omega) with ⟨-, b⟩ | ⟨b, -⟩
          · exact absurd (fun j _ hj => b j hj) y2
          · exact b
        have e3 := e''.trans (lt_eq y1.symm)
        dsimp only at e3
        rw [if_pos rfl, if_pos rfl] at e3
        obtain ⟨M2, z1, z2⟩ := ih n c low M' (by omega) (by omega) y0
        refine ⟨M2, ?_, z2⟩
        rw [e3, z1, if_pos b, if_pos b]
        by_cases w : fst4 g s = -4
        · rw [if_pos w, if_pos w, if_pos rfl]
        · rw [if_neg w, if_neg w, if_neg w]
theorem s_rests {R M : Nat → Nat → Int32} {t u what : Int32} (h : Inv R M) : (d_X6_rests R t u what).1 = (d_X7_rests M t u what).1 ∧ Inv (d_X6_rests R t u what).2 (d_X7_rests M t u what).2 := by
  have h' := h
  obtain ⟨T, C, hT, hC, tt, cc, k1, -, hnow, -⟩ := h'
  have n1 : ¬ (1 : Int32) = 0 := by decide
  have n0 : ¬ (0 : Int32) = 1 := by decide
  rcases town_cases (Q := shf M 0) (t := t) hT tt (RS_t hnow) with ⟨v, hv, rfl, e1, e2⟩ | ⟨e1, e2⟩
  · rcases town_cases (Q := shf M 0) (t := u) hT tt (RS_t hnow) with ⟨w, hw, rfl, e3, e4⟩ | ⟨e3, e4⟩
    · have c0 : (nI v).toNatClampNeg = v := nI_clamp (by omega)
      have c2 : (nI w).toNatClampNeg = w := nI_clamp (by omega)
      by_cases g1 : nI v = nI w
      · have e6 : d_X6_rests R (nI v) (nI w) what = (-1, R) := by rw [d_X6_rests]; exact (oc_some e1).trans ((oc_some e3).trans (if_pos g1))
        have e7 : d_X7_rests M (nI v) (nI w) what = (-1, M) := by
          rw [d_X7_rests]; exact (lt_eq e2.symm).trans ((if_neg n1).trans ((lt_eq e4.symm).trans ((if_neg n1).trans (if_pos g1))))
        rw [e6, e7]; exact ⟨rfl, h⟩
      · by_cases g : what < 0 ∨ 1 < what
        · have e7 : d_X7_rests M (nI v) (nI w) what = (-1, M) := by
            rw [d_X7_rests]; exact (lt_eq e2.symm).trans ((if_neg n1).trans ((lt_eq e4.symm).trans ((if_neg n1).trans ((if_neg g1).trans ((lt_eq (y := 0) (by rw [in_eq, if_pos g])).trans (if_pos rfl))))))
          have e6 : d_X6_rests R (nI v) (nI w) what = (-1, R) := by
            rw [d_X6_rests]
            refine (oc_some e1).trans ((oc_some e3).trans ((if_neg g1).trans ?_))
            by_cases g2 : what < 0
            · exact if_pos g2
            · exact (if_neg g2).trans (if_neg (Int32.not_le.mpr (g.resolve_left g2)))
          rw [e6, e7]; exact ⟨rfl, h⟩
        · have i1 : d_X7_in what 0 1 = 1 := by rw [in_eq, if_neg g]
          have q1 : R (25 + v) 1 = M 6 (25 + v) := (now_T hnow hv).1
          have q2 : R (25 + w) 1 = M 6 (25 + w) := (now_T hnow hw).1
          have p6 : ∀ x : Int32 × (Nat → Nat → Int32), (if R (25 + v) 1 = 0 then (if R (25 + w) 1 = 0 then (lt (d_X6_rests_L68 (nI v) (nI w) 17 R 0) fun s48 => lt (d_X6_rests_L99 s48 17 (0 : Int32) (-4 : Int32) 0) fun s75 => if what = 0 then (s75.1, s48) else (s75.2, s48)) else ((-2 : Int32), R)) else ((-2 : Int32), R)) = x → d_X6_rests R (nI v) (nI w) what = x := fun x hx => by
            rw [d_X6_rests]; exact (oc_some e1).trans ((oc_some e3).trans ((if_neg g1).trans ((if_neg (fun w => g (Or.inl w))).trans ((if_pos (Int32.not_lt.mp (fun w => g (Or.inr w)))).trans hx))))
          have p7 : ∀ x : Int32 × (Nat → Nat → Int32), (if M 6 (25 + v) = 1 then ((-2 : Int32), M) else if M 6 (25 + w) = 1 then ((-2 : Int32), M) else lt (d_X7_rests_L72 (nI v) (nI w) 17 M (0 : Int32) (-4 : Int32) (15 : Int32)) fun s111 => if what = 0 then (s111.2.1, s111.1) else (s111.2.2, s111.1)) = x → d_X7_rests M (nI v) (nI w) what = x := fun x hx => by
            rw [d_X7_rests, c0, c2]; exact (lt_eq e2.symm).trans ((if_neg n1).trans ((lt_eq e4.symm).trans ((if_neg n1).trans ((if_neg g1).trans ((lt_eq i1.symm).trans ((if_neg n1).trans hx))))))
          rcases (hnow.2.2.1.1 v hv).2.1 with b1 | b1
          · rcases (hnow.2.2.1.1 w hw).2.1 with b2 | b2
            · obtain ⟨d1, d2⟩ := try_table hT hC k1 hnow hv hw 17 0 R (by omega) (by omega) (TR.start h) (fun j hj => absurd hj (by omega))
              have p6' := fun x hx => p6 x ((if_pos (show R (25 + v) 1 = 0 by rw [q1]; exact b1)).trans ((if_pos (show R (25 + w) 1 = 0 by rw [q2]; exact b2)).trans hx))
              generalize d_X6_rests_L68 (nI v) (nI w) 17 R 0 = X at d1 d2 p6'
              have hr : ∀ c, c < 16 → (d_X6_isRest X (nI c) = 1 ∧ ∀ j, j < 4 → isP (fun p q => Vf (M 5) T C (M 0 12) (M 6) v w p q v) (fun p q => Vf (M 5) T C (M 0 12) (M 6) v w p q w) c j) ∨ (d_X6_isRest X (nI c) = 0 ∧ ¬ ∀ j, j < 4 → isP (fun p q => Vf (M 5) T C (M 0 12) (M 6) v w p q v) (fun p q => Vf (M 5) T C (M 0 12) (M 6) v w p q w) c j) := fun c hc => rest01 (V1 := fun p q => Vf (M 5) T C (M 0 12) (M 6) v w p q v) (V2 := fun p q => Vf (M 5) T C (M 0 12) (M 6) v w p q w) d2 hc
              have u1 := rests_up (S := X) (g := fun c => d_X6_isRest X (nI c)) (fun s hs => ⟨by
                rcases hr s hs with ⟨z, -⟩ | ⟨z, -⟩
                · exact Or.inr z
                · exact Or.inl z, rfl⟩) 17 0 (by omega) (by omega)
              obtain ⟨M2, w1, w2⟩ := rests_down (g := fun c => d_X6_isRest X (nI c)) hT hC tt cc k1 hnow hv hw hr 16 17 0 (-4) M (by omega) (by omega) (TR.start h)
              rw [cnt, fst4, nI_0] at u1
              rw [nI_0, show nI 16 - 1 = 15 by decide, Nat.zero_add] at w1
              generalize fst4 (fun c => d_X6_isRest X (nI c)) 16 = ff at u1 w1
              generalize cnt (fun c => d_X6_isRest X (nI c)) 16 = cn at u1 w1
              have ef : (if ff = -4 then -4 else ff) = ff := by
                by_cases z : ff = -4
                · rw [if_pos z, z]
                · rw [if_neg z]
              rw [ef] at w1
              have e6 : d_X6_rests R (nI v) (nI w) what = if what = 0 then (nI cn, X) else (ff, X) := p6' _ (by
                refine (lt_eq rfl).trans ?_
                rw [u1]; rfl)
              have e7 : d_X7_rests M (nI v) (nI w) what = if what = 0 then (nI cn, M2) else (ff, M2) := p7 _ (by
                rw [if_neg (show ¬ M 6 (25 + v) = 1 by rw [b1]; exact n0), if_neg (show ¬ M 6 (25 + w) = 1 by rw [b2]; exact n0), w1]; rfl)
              have hI : Inv X M2 := TR.inv (R0 := R) (M0 := M) ⟨d1.1, w2.2.1, w2.2.2.1, d1.2.2.2⟩ h
              rw [e6, e7]
              by_cases z : what = 0
              · rw [if_pos z, if_pos z]; exact ⟨rfl, hI⟩
              · rw [if_neg z, if_neg z]; exact ⟨rfl, hI⟩
            · have e6 := p6 (-2, R) ((if_pos (show R (25 + v) 1 = 0 by rw [q1]; exact b1)).trans (if_neg (by rw [q2, b2]; exact n1)))
              have e7 := p7 (-2, M) ((if_neg (by rw [b1]; exact n0)).trans (if_pos b2))
              rw [e6, e7]; exact ⟨rfl, h⟩
          · have e6 := p6 (-2, R) (if_neg (by rw [q1, b1]; exact n1))
            have e7 := p7 (-2, M) (if_pos b1)
            rw [e6, e7]; exact ⟨rfl, h⟩
    · have e6 : d_X6_rests R (nI v) u what = (-1, R) := by rw [d_X6_rests]; exact (oc_some e1).trans (oc_none e3)
      have e7 : d_X7_rests M (nI v) u what = (-1, M) := by rw [d_X7_rests]; exact (lt_eq e2.symm).trans ((if_neg n1).trans ((lt_eq e4.symm).trans (if_pos rfl)))
      rw [e6, e7]; exact ⟨rfl, h⟩
  · have e6 : d_X6_rests R t u what = (-1, R) := by rw [d_X6_rests]; exact (oc_none e1).trans (by cases d_X3_townAt (shf R 22) u <;> rfl)
    have e7 : d_X7_rests M t u what = (-1, M) := by rw [d_X7_rests]; exact (lt_eq e2.symm).trans (if_pos rfl)
    rw [e6, e7]; exact ⟨rfl, h⟩
