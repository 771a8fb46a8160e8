/-! building, the crews, a whole spring of the reference -/
abbrev Bd (a : Nat → Int32) (cost : Int32) (t : Nat) : Prop := a (25 + t) = 0 ∧ a (19 + t) = 3 ∧ ¬ a (1 + t) < cost ∧ ¬ 20 ≤ a (13 + t)
def bst (cost : Int32) (t : Nat) (a : Nat → Int32) : Nat → Int32 := if Bd a cost t then upd (upd a (1 + t) (a (1 + t) - cost)) (13 + t) (a (13 + t) + 1) else a
def Fb (T : Nat) (cost : Int32) (t : Nat) (a : Nat → Int32) : Nat → Int32 := fun k => if 1 + t ≤ k ∧ k < 1 + T then (if Bd a cost (k - 1) then a k - cost else a k) else if 13 + t ≤ k ∧ k < 13 + T then (if Bd a cost (k - 13) then a k + 1 else a k) else a k
theorem bst_o {cost : Int32} {t k : Nat} {a : Nat → Int32} (h1 : k ≠ 1 + t) (h2 : k ≠ 13 + t) : bst cost t a k = a k := by
  unfold bst
  split
  · simp only [upd]; rw [if_neg h2, if_neg h1]
  · rfl
theorem bst_1 {cost : Int32} {t : Nat} {a : Nat → Int32} : bst cost t a (1 + t) = if Bd a cost t then a (1 + t) - cost else a (1 + t) := by
  unfold bst
  split
  · simp only [upd]; rw [if_neg (by omega), if_true]
  · rfl
theorem bst_13 {cost : Int32} {t : Nat} {a : Nat → Int32} : bst cost t a (13 + t) = if Bd a cost t then a (13 + t) + 1 else a (13 + t) := by
  unfold bst
  split
  · simp only [upd, if_true]
  · rfl
theorem bst_Bd {cost : Int32} {t u : Nat} {a : Nat → Int32} (ht : t < 6) (hu : u < 6) (h : u ≠ t) : Bd (bst cost t a) cost u ↔ Bd a cost u := by
  unfold Bd
  rw [bst_o (k := 25 + u) (by omega) (by omega), bst_o (k := 19 + u) (by omega) (by omega), bst_o (k := 1 + u) (by omega) (by omega), bst_o (k := 13 + u) (by omega) (by omega)]
theorem Fb_step {T t : Nat} {cost : Int32} {a : Nat → Int32} (hT : T ≤ 6) (ht : t < T) : Fb T cost (t + 1) (bst cost t a) = Fb T cost t a := by
  funext k
  unfold Fb
  by_cases hA : 1 + t ≤ k ∧ k < 1 + T
  · rw [if_pos hA]
    by_cases hk : k = 1 + t
    · subst hk
      rw [if_neg (by omega), if_neg (by omega), bst_1, show 1 + t - 1 = t by omega]
    · rw [if_pos (by omega), bst_o hk (by omega)]
      by_cases hb : Bd a cost (k - 1)
      · rw [if_pos hb, if_pos ((bst_Bd (by omega) (by omega) (by omega)).mpr hb)]
      · rw [if_neg hb, if_neg (fun z => hb ((bst_Bd (by omega) (by omega) (by omega)).mp z))]
  · rw [if_neg hA, if_neg (by omega)]
    by_cases hB : 13 + t ≤ k ∧ k < 13 + T
    · rw [if_pos hB]
      by_cases hk : k = 13 + t
      · subst hk
        rw [if_neg (by omega), bst_13, show 13 + t - 13 = t by omega]
      · rw [if_pos (by omega), bst_o (by omega) hk]
        by_cases hb : Bd a cost (k - 13)
        · rw [if_pos hb, if_pos ((bst_Bd (by omega) (by omega) (by omega)).mpr hb)]
        · rw [if_neg hb, if_neg (fun z => hb ((bst_Bd (by omega) (by omega) (by omega)).mp z))]
    · rw [if_neg hB, if_neg (by omega), bst_o (by omega) (by omega)]
theorem build_eq {M : Nat → Nat → Int32} {T : Nat} (hT : M 0 10 = nI T) (hT6 : T ≤ 6) : ∀ (n t : Nat) (R : Nat → Nat → Int32), t ≤ 6 → T < t + n → d_X7_spring_L59 M n R t 0 = Fb T (M 0 12) t (R 0) := by
  intro n
  induction n with
  | zero =>
    intro t R ht hn
    funext k
    unfold Fb
    rw [if_neg (by omega), if_neg (by omega)]; rfl
  | succ n ih =>
    intro t R ht hn
    by_cases c1 : T ≤ t
    · have e : d_X7_spring_L59 M (n + 1) R t = R := by rw [d_X7_spring_L59]; exact if_pos (by rw [hT]; exact nI_le c1 (by omega))
      rw [e]
      funext k
      unfold Fb
      rw [if_neg (by omega), if_neg (by omega)]
    · have c1' : ¬ M 0 10 ≤ nI t := by rw [hT]; exact nI_ge (by omega) (by omega)
      have step : ∃ R', d_X7_spring_L59 M (n + 1) R t = d_X7_spring_L59 M n R' (t + 1) ∧ R' 0 = bst (M 0 12) t (R 0) := by
        by_cases b1 : R 0 (25 + t) = 0
        · by_cases b2 : R 0 (19 + t) = 3
          · by_cases b3 : R 0 (1 + t) < M 0 12
            · refine ⟨R, by rw [d_X7_spring_L59]; exact (if_neg c1').trans ((if_pos b1).trans ((if_pos b2).trans (if_pos b3))), ?_⟩
              unfold bst; rw [if_neg (fun z => z.2.2.1 b3)]
            · by_cases b4 : 20 ≤ R 0 (13 + t)
              · refine ⟨R, by rw [d_X7_spring_L59]; exact (if_neg c1').trans ((if_pos b1).trans ((if_pos b2).trans ((if_neg b3).trans (if_pos b4)))), ?_⟩
                unfold bst; rw [if_neg (fun z => z.2.2.2 b4)]
              · refine ⟨_, by rw [d_X7_spring_L59]; exact (if_neg c1').trans ((if_pos b1).trans ((if_pos b2).trans ((if_neg b3).trans ((if_neg b4).trans (lt_eq rfl))))), ?_⟩
                unfold bst; rw [if_pos ⟨b1, b2, b3, b4⟩, pt_eq, pt_eq]
                have u : upd (R 0) (1 + t) (R 0 (1 + t) - M 0 12) (13 + t) = R 0 (13 + t) := by simp only [upd]; rw [if_neg (by omega)]
                rw [u]
          · refine ⟨R, by rw [d_X7_spring_L59]; exact (if_neg c1').trans ((if_pos b1).trans (if_neg b2)), ?_⟩
            unfold bst; rw [if_neg (fun z => b2 z.2.1)]
        · refine ⟨R, by rw [d_X7_spring_L59]; exact (if_neg c1').trans (if_neg b1), ?_⟩
          unfold bst; rw [if_neg (fun z => b1 z.1)]
      obtain ⟨R', e, eb⟩ := step
      rw [e, ih _ _ (by omega) (by omega), eb, Fb_step hT6 (by omega)]
def crA (kd : Nat → Int32) (T C : Nat) : Nat → (Nat → Int32) → Nat → Nat → Int32
  | 0, a, _ => a
  | n + 1, a, c => if C ≤ c then a else if a (43 + c) = 0 then crA kd T C n (comA kd T c a) (c + 1) else crA kd T C n a (c + 1)
theorem crew_eq {M q : Nat → Nat → Int32} {T C : Nat} (hT : M 0 10 = nI T) (hT6 : T ≤ 6) (hC : M 0 11 = nI C) (hC3 : C ≤ 3) : ∀ (n c : Nat) (R : Nat → Nat → Int32), c ≤ 3 → d_X7_spring_L139 M q n R c 0 = crA (q 0) T C n (R 0) c := by
  intro n
  induction n with
  | zero => intro c R hc; rfl
  | succ n ih =>
    intro c R hc
    rw [crA]
    by_cases c1 : C ≤ c
    · have e : d_X7_spring_L139 M q (n + 1) R c = R := by rw [d_X7_spring_L139]; exact if_pos (by rw [hC]; exact nI_le c1 (by omega))
      rw [e, if_pos c1]
    · have c1' : ¬ M 0 11 ≤ nI c := by rw [hC]; exact nI_ge (by omega) (by omega)
      rw [if_neg c1]
      by_cases c2 : R 0 (43 + c) = 0
      · have e : d_X7_spring_L139 M q (n + 1) R c = d_X7_spring_L139 M q n (d_X7_comeUp M q R (nI c)) (c + 1) := by
          rw [d_X7_spring_L139]; exact (if_neg c1').trans ((if_pos c2).trans (lt_eq rfl))
        rw [e, if_pos c2, ih _ _ (by omega), comeUp_eq hT hT6, nI_clamp (by omega)]
      · have e : d_X7_spring_L139 M q (n + 1) R c = d_X7_spring_L139 M q n R (c + 1) := by
          rw [d_X7_spring_L139]; exact (if_neg c1').trans (if_neg c2)
        rw [e, if_neg c2, ih _ _ (by omega)]
def sprA (kd : Nat → Int32) (T C : Nat) (cost : Int32) (a : Nat → Int32) : Nat → Int32 := upd (crA kd T C 4 (Fb T cost 0 (earnA T a)) 0) 0 (crA kd T C 4 (Fb T cost 0 (earnA T a)) 0 0 + 1)
theorem spring_eq {M q R : Nat → Nat → Int32} {T C : Nat} (hT : M 0 10 = nI T) (hT6 : T ≤ 6) (hC : M 0 11 = nI C) (hC3 : C ≤ 3) : d_X7_spring M q R 0 = sprA (q 0) T C (M 0 12) (R 0) := by
  have e1 : d_X7_spring_L2 M 7 R 0 0 = earnA T (R 0) := earn_eq hT hT6 7 0 R (by omega) (by omega)
  generalize hs1 : d_X7_spring_L2 M 7 R 0 = s1 at e1
  have e2 : d_X7_spring_L59 M 7 s1 0 0 = Fb T (M 0 12) 0 (s1 0) := build_eq hT hT6 7 0 s1 (by omega) (by omega)
  generalize hs2 : d_X7_spring_L59 M 7 s1 0 = s2 at e2
  have e3 : d_X7_spring_L139 M q 4 s2 0 0 = crA (q 0) T C 4 (s2 0) 0 := crew_eq hT hT6 hC hC3 4 0 s2 (by omega)
  generalize hs3 : d_X7_spring_L139 M q 4 s2 0 = s3 at e3
  have e : d_X7_spring M q R = pt s3 0 0 (s3 0 0 + 1) := by
    rw [d_X7_spring]; exact (lt_eq hs1.symm).trans ((lt_eq hs2.symm).trans (lt_eq hs3.symm))
  rw [e, pt_eq, e3, e2, e1]
  rfl
