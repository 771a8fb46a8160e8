/-! a river of the class beside 64 numbers of the reference: what stands between them; earning and building -/
def RT (kd : Nat → Int32) (r : Nat → Nat → Int32) (a : Nat → Int32) (t : Nat) : Prop := r (3 + t) 1 = a (25 + t) ∧ r (3 + t) 2 = kd t ∧ r (3 + t) 3 = a (1 + t) ∧ r (3 + t) 4 = a (7 + t) ∧ r (3 + t) 5 = a (13 + t) ∧ r (3 + t) 6 = a (19 + t) ∧ r (3 + t) 7 = a (31 + t)
def RC (T : Nat) (r : Nat → Nat → Int32) (a : Nat → Int32) (c : Nat) : Prop := r (9 + 2 * c) 2 = a (37 + c) ∧ r (9 + 2 * c) 3 = a (40 + c) ∧ ∀ t, t < T → r (10 + 2 * c) t = a (46 + 6 * c + t)
/-- th, go: the class's crews there, gone; ga: the reference's gone; K: the crews of which the numbers count; sp: spoils -/
def RV (T : Nat) (kd : Nat → Int32) (cost : Int32) (th go ga : Nat → Int32) (K : Nat → Prop) (sp : Nat → Int32) (r : Nat → Nat → Int32) (a : Nat → Int32) : Prop :=
  (∀ t, t < 6 → (r (3 + t) 0 = 0 ↔ ¬ t < T)) ∧ (∀ t, t < T → RT kd r a t) ∧ (∀ c, c < 3 → r (9 + 2 * c) 0 = th c ∧ r (9 + 2 * c) 1 = go c ∧ a (43 + c) = ga c) ∧ (∀ c, c < 3 → K c → RC T r a c) ∧ (∀ c, c < 3 → r (9 + 2 * c) 4 = sp c) ∧ r 0 2 = cost ∧ r 0 3 = a 0
theorem imin_sat {m x : Int32} : imin m x = sat m x := by
  unfold imin sat
  by_cases h : x < m
  · rw [if_pos h, if_pos (Int32.le_of_lt h)]
  · rw [if_neg h]
    by_cases h2 : x ≤ m
    · rw [if_pos h2]; exact Int32.le_antisymm (Int32.not_lt.mp h) h2
    · rw [if_neg h2]
/-- a town that earns and builds -/
def ebS (cost : Int32) (v : Nat → Int32) : Nat → Int32 := if ¬ v 0 = 0 ∧ v 1 = 0 then (if v 6 = 3 ∧ ¬ sat 999 (v 3 + v 4) < cost ∧ ¬ 20 ≤ v 5 then upd (upd (upd v 3 (sat 999 (v 3 + v 4))) 3 (sat 999 (v 3 + v 4) - cost)) 5 (v 5 + 1) else upd v 3 (sat 999 (v 3 + v 4))) else v
theorem stands_eq {u : Nat → Nat → Int32} : d_X5_stands u = if ¬ u 0 0 = 0 ∧ u 0 1 = 0 then 1 else 0 := by
  unfold d_X5_stands
  by_cases h : u 0 0 = 0
  · rw [if_pos h, if_neg (fun z => z.1 h)]
  · rw [if_neg h]
    by_cases h2 : u 0 1 = 0
    · rw [if_pos h2, if_pos ⟨h, h2⟩]
    · rw [if_neg h2, if_neg (fun z => h2 z.2)]
theorem build0 {u : Nat → Nat → Int32} {cost : Int32} : d_X5_build u cost 0 = if u 0 6 = 3 ∧ ¬ u 0 3 < cost ∧ ¬ 20 ≤ u 0 5 then upd (upd (u 0) 3 (u 0 3 - cost)) 5 (u 0 5 + 1) else u 0 := by
  unfold d_X5_build
  by_cases h : u 0 6 = 3
  · rw [if_pos h]
    by_cases h2 : u 0 3 < cost
    · rw [if_pos h2, if_neg (fun z => z.2.1 h2)]
    · rw [if_neg h2]
      by_cases h3 : 20 ≤ u 0 5
      · rw [if_pos h3, if_neg (fun z => z.2.2 h3)]
      · rw [if_neg h3, if_pos ⟨h, h2, h3⟩, pt_eq, pt_eq]
  · rw [if_neg h, if_neg (fun z => h z.1)]
theorem eb_loop : ∀ (n i : Nat) (r : Nat → Nat → Int32), i ≤ 6 → 6 < i + n → (∀ q, ¬ (3 + i ≤ q ∧ q < 9) → d_X3_earnAndBuild_L2 n r i q = r q) ∧ ∀ t, i ≤ t → t < 6 → d_X3_earnAndBuild_L2 n r i (3 + t) = ebS (r 0 2) (r (3 + t)) := by
  intro n
  induction n with
  | zero => intro i r h1 h2; exact absurd h2 (by omega)
  | succ n ih =>
    intro i r h1 h2
    by_cases c1 : 6 ≤ i
    · have e : d_X3_earnAndBuild_L2 (n + 1) r i = r := by rw [d_X3_earnAndBuild_L2]; exact if_pos (nI_le c1 (by omega))
      rw [e]
      exact ⟨fun _ _ => rfl, fun t h3 h4 => absurd h4 (by omega)⟩
    · have c1' : ¬ nI 6 ≤ nI i := nI_ge (by omega) (by omega)
      have step : ∃ r', d_X3_earnAndBuild_L2 (n + 1) r i = d_X3_earnAndBuild_L2 n r' (i + 1) ∧ (∀ q, q ≠ 3 + i → r' q = r q) ∧ r' (3 + i) = ebS (r 0 2) (r (3 + i)) := by
        by_cases c2 : d_X5_stands (shf r (3 + i)) = 0
        · refine ⟨r, by rw [d_X3_earnAndBuild_L2]; exact (if_neg c1').trans ((lt_eq rfl).trans (if_pos c2)), fun _ _ => rfl, ?_⟩
          rw [stands_eq] at c2
          unfold ebS
          rw [if_neg]
          intro z
          rw [if_pos (show ¬ shf r (3 + i) 0 0 = 0 ∧ shf r (3 + i) 0 1 = 0 from z)] at c2
          exact absurd c2 (by decide)
        · refine ⟨_, by rw [d_X3_earnAndBuild_L2]; exact (if_neg c1').trans ((lt_eq rfl).trans ((if_neg c2).trans ((lt_eq rfl).trans (lt_eq rfl)))), fun q hq => ?_, ?_⟩
          · rw [spl_out (by omega), spl_out (by omega)]
          · have hs : ¬ r (3 + i) 0 = 0 ∧ r (3 + i) 1 = 0 := by
              by_cases z : ¬ r (3 + i) 0 = 0 ∧ r (3 + i) 1 = 0
              · exact z
              · rw [stands_eq, if_neg (show ¬ (¬ shf r (3 + i) 0 0 = 0 ∧ shf r (3 + i) 0 1 = 0) from z)] at c2
                exact absurd rfl c2
            rw [spl_in (by omega), show 3 + i - (3 + i) = 0 by omega, build0]
            have e1 : shf (spl r (3 + i) 1 (d_X5_earn (shf r (3 + i)))) (3 + i) 0 = upd (r (3 + i)) 3 (sat 999 (r (3 + i) 3 + r (3 + i) 4)) := by
              show spl r (3 + i) 1 (d_X5_earn (shf r (3 + i))) (3 + i + 0) = _
              rw [spl_in (by omega), show 3 + i + 0 - (3 + i) = 0 by omega, d_X5_earn, pt_eq, imin_sat]
              rfl
            have e2 : spl r (3 + i) 1 (d_X5_earn (shf r (3 + i))) 0 = r 0 := spl_out (by omega)
            rw [e1, e2]
            unfold ebS
            rw [if_pos hs]
            rfl
      obtain ⟨r', e, g1, g2⟩ := step
      have h := ih (i + 1) r' (by omega) (by omega)
      rw [e]
      refine ⟨fun q hq => ?_, fun t h3 h4 => ?_⟩
      · rw [h.1 q (by omega), g1 q (by omega)]
      · by_cases ht : t = i
        · subst ht
          rw [h.1 (3 + t) (by omega), g2]
        · rw [h.2 t (by omega) h4, g1 (3 + t) (by omega), g1 0 (by omega)]
theorem earnA_1 {T t : Nat} {a : Nat → Int32} (ht : t < T) : earnA T a (1 + t) = if a (25 + t) = 0 then sat 999 (a (1 + t) + a (7 + t)) else a (1 + t) := by
  unfold earnA
  rw [show 24 + (1 + t) = 25 + t by omega, show 6 + (1 + t) = 7 + t by omega]
  by_cases h : a (25 + t) = 0
  · rw [if_pos ⟨by omega, h⟩, if_pos h]
  · rw [if_neg (fun z => h z.2), if_neg h]
theorem earnA_o {T k : Nat} {a : Nat → Int32} (hT : T ≤ 6) (hk : k = 0 ∨ 7 ≤ k) : earnA T a k = a k := if_neg (by omega)
theorem Fb_1 {T t : Nat} {cost : Int32} {a : Nat → Int32} (ht : t < T) : Fb T cost 0 a (1 + t) = if Bd a cost t then a (1 + t) - cost else a (1 + t) := by
  unfold Fb
  rw [if_pos (by omega), show 1 + t - 1 = t by omega]
theorem Fb_13 {T t : Nat} {cost : Int32} {a : Nat → Int32} (hT : T ≤ 6) (ht : t < T) : Fb T cost 0 a (13 + t) = if Bd a cost t then a (13 + t) + 1 else a (13 + t) := by
  unfold Fb
  rw [if_neg (by omega), if_pos (by omega), show 13 + t - 13 = t by omega]
theorem Fb_o {T k : Nat} {cost : Int32} {a : Nat → Int32} (hT : T ≤ 6) (hk : k = 0 ∨ (7 ≤ k ∧ k < 13) ∨ 19 ≤ k) : Fb T cost 0 a k = a k := by
  unfold Fb
  rw [if_neg (by omega), if_neg (by omega)]
theorem eb_sim {T : Nat} {kd : Nat → Int32} {cost : Int32} {th go ga : Nat → Int32} {K : Nat → Prop} {sp : Nat → Int32} {r : Nat → Nat → Int32} {a : Nat → Int32} (hT : T ≤ 6) (h : RV T kd cost th go ga K sp r a) : RV T kd cost th go ga K sp (d_X3_earnAndBuild r) (Fb T cost 0 (earnA T a)) := by
  have e : d_X3_earnAndBuild r = d_X3_earnAndBuild_L2 7 r 0 := rfl
  rw [e]
  obtain ⟨g1, g2⟩ := eb_loop 7 0 r (by omega) (by omega)
  obtain ⟨h1, h2, h3, h4, h5, h6, h7⟩ := h
  have mo : ∀ k, k = 0 ∨ (7 ≤ k ∧ k < 13) ∨ 19 ≤ k → Fb T cost 0 (earnA T a) k = a k := fun k hk => by rw [Fb_o hT hk, earnA_o hT (by omega)]
  refine ⟨fun t ht => ?_, fun t ht => ?_, fun c hc => ?_, fun c hc hK => ?_, fun c hc => ?_, ?_, ?_⟩
  · rw [g2 t (by omega) ht, ← h1 t ht]
    have : ebS (r 0 2) (r (3 + t)) 0 = r (3 + t) 0 := by
      unfold ebS
      split
      · split <;> rfl
      · rfl
    rw [this]
  · obtain ⟨q1, q2, q3, q4, q5, q6, q7⟩ := h2 t ht
    have hth : ¬ r (3 + t) 0 = 0 := fun z => ((h1 t (by omega)).mp z) ht
    unfold RT
    rw [g2 t (by omega) (by omega), mo (25 + t) (by omega), mo (7 + t) (by omega), mo (19 + t) (by omega), mo (31 + t) (by omega), Fb_1 ht, Fb_13 hT ht]
    have b1 : earnA T a (25 + t) = a (25 + t) := earnA_o hT (by omega)
    have b2 : earnA T a (19 + t) = a (19 + t) := earnA_o hT (by omega)
    have b3 : earnA T a (13 + t) = a (13 + t) := earnA_o hT (by omega)
    unfold Bd
    rw [b1, b2, b3, earnA_1 ht, h6]
    unfold ebS
    by_cases c1 : a (25 + t) = 0
    · rw [if_pos ⟨hth, by rw [q1]; exact c1⟩, if_pos c1, q3, q4, q5, q6]
      by_cases c2 : a (19 + t) = 3 ∧ ¬ sat 999 (a (1 + t) + a (7 + t)) < cost ∧ ¬ 20 ≤ a (13 + t)
      · rw [if_pos c2, if_pos ⟨c1, c2⟩, if_pos ⟨c1, c2⟩]
        exact ⟨q1, q2, rfl, q4, rfl, q6, q7⟩
      · rw [if_neg c2, if_neg (fun z => c2 z.2), if_neg (fun z => c2 z.2)]
        exact ⟨q1, q2, rfl, q4, q5, q6, q7⟩
    · rw [if_neg (fun z => c1 (by rw [← q1]; exact z.2)), if_neg c1, if_neg (fun z => c1 z.1), if_neg (fun z => c1 z.1)]
      exact ⟨q1, q2, q3, q4, q5, q6, q7⟩
  · rw [g1 (9 + 2 * c) (by omega), mo (43 + c) (by omega)]
    exact h3 c hc
  · unfold RC
    rw [g1 (9 + 2 * c) (by omega), g1 (10 + 2 * c) (by omega), mo (37 + c) (by omega), mo (40 + c) (by omega)]
    refine ⟨(h4 c hc hK).1, (h4 c hc hK).2.1, fun t ht => ?_⟩
    rw [mo (46 + 6 * c + t) (by omega)]
    exact (h4 c hc hK).2.2 t ht
  · rw [g1 (9 + 2 * c) (by omega)]; exact h5 c hc
  · rw [g1 0 (by omega)]; exact h6
  · rw [g1 0 (by omega), mo 0 (by omega)]; exact h7
