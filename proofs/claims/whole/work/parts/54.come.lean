/-! a crew that comes up the class's river does to its numbers what comA does to the reference's -/
theorem wouldAsk_eq {Rc Rt : Nat → Nat → Int32} {t : Nat} (ht : t < 6) : d_X0_wouldAsk Rc Rt (nI t) = if Rt 0 2 = 3 then imax (Rc 0 3) (Rc 1 t / 2) / 2 else imax (Rc 0 3) (Rc 1 t / 2) := by
  have e : d_X0_beliefOf Rc (nI t) = Rc 1 t := by
    unfold d_X0_beliefOf
    rw [if_neg (nI_pos (by omega)), if_neg (nI_ge (by omega) (by omega)), nI_clamp (by omega)]
  unfold d_X0_wouldAsk
  rw [lt_eq e.symm]
theorem believe_eq {Rc : Nat → Nat → Int32} {t : Nat} {z : Int32} (ht : t < 6) : d_X0_believe Rc (nI t) z = pt Rc 1 t z := by
  unfold d_X0_believe
  rw [if_neg (nI_pos (by omega)), if_neg (nI_ge (by omega) (by omega)), nI_clamp (by omega)]
theorem give0 {Rt : Nat → Nat → Int32} {z : Int32} : d_X5_give Rt z 0 = upd (upd (Rt 0) 3 (Rt 0 3 - (if Rt 0 2 = 2 then z - z / 2 else z))) 7 (Rt 0 7 + z) := by
  unfold d_X5_give
  by_cases h : Rt 0 2 = 2
  · rw [if_pos h, if_pos h, pt_eq, pt_eq]
  · rw [if_neg h, if_neg h, pt_eq, pt_eq]
theorem takePay_eq {Rc Rt : Nat → Nat → Int32} {t : Nat} {z : Int32} (ht : t < 6) : (d_X0_takePay Rc Rt (nI t) z).1 = pt (pt Rc 0 4 (Rc 0 4 + z)) 1 t (2 * z) ∧ (d_X0_takePay Rc Rt (nI t) z).2 = d_X5_give Rt z := by
  have e : d_X0_takePay Rc Rt (nI t) z = (d_X0_believe (pt Rc 0 4 (Rc 0 4 + z)) (nI t) (2 * z), d_X5_give Rt z) := rfl
  rw [e, believe_eq ht]
  exact ⟨rfl, rfl⟩
theorem burn_eq {Rc Rt : Nat → Nat → Int32} {t : Nat} (ht : t < 6) : (d_X0_burn Rc Rt (nI t)).1 = pt (pt Rc 0 4 (Rc 0 4 + Rt 0 3)) 1 t 0 ∧ (d_X0_burn Rc Rt (nI t)).2 = pt (pt Rt 0 3 0) 0 1 1 := by
  have e : d_X0_burn Rc Rt (nI t) = (d_X0_believe (pt Rc 0 4 (Rc 0 4 + Rt 0 3)) (nI t) 0, pt (pt Rt 0 3 0) 0 1 1) := rfl
  rw [e, believe_eq ht]
  exact ⟨rfl, rfl⟩
def hitC (Rt Rc : Nat → Nat → Int32) (i : Int32) : Int32 × (Nat → Nat → Int32) × (Nat → Nat → Int32) :=
  if Rc 0 2 ≤ d_X5_menHeldOff Rt then (0, Rt, pt Rc 0 2 (imax 1 (Rc 0 2 - 2))) else (1, (d_X0_burn Rc Rt i).2, (d_X0_burn Rc Rt i).1)
theorem sendsHome_eq {Rt Rc : Nat → Nat → Int32} {i A : Int32} (hA : A = d_X0_wouldAsk Rc Rt i) : d_X3_sendsHome Rt Rc i =
    if Rt 0 6 = 0 ∧ ¬ Rt 0 3 < A then (1, (d_X0_takePay Rc Rt i A).2, (d_X0_takePay Rc Rt i A).1)
    else if Rt 0 6 = 2 ∧ ¬ Rt 0 3 < A / 3 then (0, (d_X0_takePay Rc Rt i (A / 3)).2, (d_X0_takePay Rc Rt i (A / 3)).1)
    else hitC Rt Rc i := by
  rw [d_X3_sendsHome]
  refine (lt_eq hA).trans ?_
  by_cases w0 : Rt 0 6 = 0
  · refine (if_pos w0).trans ?_
    by_cases l1 : Rt 0 3 < A
    · rw [if_neg (fun z : Rt 0 6 = 0 ∧ ¬ Rt 0 3 < A => z.2 l1)]
      refine (if_pos l1).trans ?_
      have w2 : ¬ Rt 0 6 = 2 := fun z => by rw [w0] at z; exact absurd z (by decide)
      rw [if_neg (fun z : Rt 0 6 = 2 ∧ ¬ Rt 0 3 < A / 3 => w2 z.1)]
      exact (if_neg w2).trans (lt_eq rfl)
    · rw [if_pos (show Rt 0 6 = 0 ∧ ¬ Rt 0 3 < A from ⟨w0, l1⟩)]
      exact (if_neg l1).trans (lt_eq rfl)
  · rw [if_neg (fun z : Rt 0 6 = 0 ∧ ¬ Rt 0 3 < A => w0 z.1)]
    refine (if_neg w0).trans ?_
    by_cases w2 : Rt 0 6 = 2
    · refine (if_pos w2).trans ?_
      by_cases l3 : Rt 0 3 < A / 3
      · rw [if_neg (fun z : Rt 0 6 = 2 ∧ ¬ Rt 0 3 < A / 3 => z.2 l3)]
        exact (if_pos l3).trans (lt_eq rfl)
      · rw [if_pos (show Rt 0 6 = 2 ∧ ¬ Rt 0 3 < A / 3 from ⟨w2, l3⟩)]
        exact (if_neg l3).trans (lt_eq rfl)
    · rw [if_neg (fun z : Rt 0 6 = 2 ∧ ¬ Rt 0 3 < A / 3 => w2 z.1)]
      exact (if_neg w2).trans (lt_eq rfl)
theorem imax_le {x y : Int32} : imax x y = if y ≤ x then x else y := by
  unfold imax
  by_cases h : x < y
  · rw [if_pos h, if_neg (fun z => Int32.not_lt.mpr z h)]
  · rw [if_neg h, if_pos (Int32.not_lt.mp h)]
theorem imax_men {m : Int32} (h : rg 99 m) : imax 1 (m - 2) = if m ≤ 3 then 1 else m - 2 := by
  obtain ⟨n, hn, rfl⟩ := h
  rw [imax_le]
  have key : ∀ n, n ≤ 99 → (if nI n - 2 ≤ 1 then (1 : Int32) else nI n - 2) = if nI n ≤ 3 then 1 else nI n - 2 := by decide +kernel
  exact key n hn
section CS
variable {T : Nat} {kd : Nat → Int32} {cost : Int32} {th go ga : Nat → Int32} {K : Nat → Prop} {sp : Nat → Int32} {r r' : Nat → Nat → Int32} {a a' : Nat → Int32} {c t : Nat}
theorem RV_up {x : Int32} (hT : T ≤ 6) (h : RV T kd cost th go ga K sp r a) (ht : t < T) (hc : c < 3) (hK : K c)
    (ro : ∀ q, q ≠ 3 + t → q ≠ 9 + 2 * c → q ≠ 10 + 2 * c → r' q = r q) (ao : ∀ k, k ≠ 1 + t → k ≠ 25 + t → k ≠ 31 + t → k ≠ 37 + c → k ≠ 46 + 6 * c + t → a' k = a k)
    (v : ∀ j, j ≠ 1 → j ≠ 3 → j ≠ 7 → r' (3 + t) j = r (3 + t) j) (v1 : r' (3 + t) 1 = a' (25 + t)) (v3 : r' (3 + t) 3 = a' (1 + t)) (v7 : r' (3 + t) 7 = a' (31 + t))
    (u : ∀ j, j ≠ 2 → j ≠ 4 → r' (9 + 2 * c) j = r (9 + 2 * c) j) (u2 : r' (9 + 2 * c) 2 = a' (37 + c)) (u4 : r' (9 + 2 * c) 4 = x)
    (w : r' (10 + 2 * c) t = a' (46 + 6 * c + t)) (w' : ∀ j, j ≠ t → r' (10 + 2 * c) j = r (10 + 2 * c) j) : RV T kd cost th go ga K (upd sp c x) r' a' := by
  obtain ⟨h1, h2, h3, h4, h5, h6, h7⟩ := h
  refine ⟨fun d hd => ?_, fun d hd => ?_, fun d hd => ?_, fun d hd hKd => ?_, fun d hd => ?_, ?_, ?_⟩
  · by_cases e : d = t
    · subst e; rw [v 0 (by decide) (by decide) (by decide)]; exact h1 d hd
    · rw [ro (3 + d) (by omega) (by omega) (by omega)]; exact h1 d hd
  · by_cases e : d = t
    · subst e
      obtain ⟨q1, q2, q3, q4, q5, q6, q7⟩ := h2 d hd
      refine ⟨v1, ?_, v3, ?_, ?_, ?_, v7⟩
      · rw [v 2 (by decide) (by decide) (by decide)]; exact q2
      · rw [v 4 (by decide) (by decide) (by decide), ao (7 + d) (by omega) (by omega) (by omega) (by omega) (by omega)]; exact q4
      · rw [v 5 (by decide) (by decide) (by decide), ao (13 + d) (by omega) (by omega) (by omega) (by omega) (by omega)]; exact q5
      · rw [v 6 (by decide) (by decide) (by decide), ao (19 + d) (by omega) (by omega) (by omega) (by omega) (by omega)]; exact q6
    · unfold RT
      rw [ro (3 + d) (by omega) (by omega) (by omega), ao (25 + d) (by omega) (by omega) (by omega) (by omega) (by omega), ao (1 + d) (by omega) (by omega) (by omega) (by omega) (by omega), ao (7 + d) (by omega) (by omega) (by omega) (by omega) (by omega), ao (13 + d) (by omega) (by omega) (by omega) (by omega) (by omega), ao (19 + d) (by omega) (by omega) (by omega) (by omega) (by omega), ao (31 + d) (by omega) (by omega) (by omega) (by omega) (by omega)]
      exact h2 d hd
  · rw [ao (43 + d) (by omega) (by omega) (by omega) (by omega) (by omega)]
    by_cases e : d = c
    · subst e
      rw [u 0 (by decide) (by decide), u 1 (by decide) (by decide)]
      exact h3 d hd
    · rw [ro (9 + 2 * d) (by omega) (by omega) (by omega)]; exact h3 d hd
  · obtain ⟨q1, q2, q3⟩ := h4 d hd hKd
    by_cases e : d = c
    · subst e
      refine ⟨u2, ?_, fun j hj => ?_⟩
      · rw [u 3 (by decide) (by decide), ao (40 + d) (by omega) (by omega) (by omega) (by omega) (by omega)]; exact q2
      · by_cases ej : j = t
        · subst ej; exact w
        · rw [w' j ej, ao (46 + 6 * d + j) (by omega) (by omega) (by omega) (by omega) (by omega)]; exact q3 j hj
    · unfold RC
      rw [ro (9 + 2 * d) (by omega) (by omega) (by omega), ro (10 + 2 * d) (by omega) (by omega) (by omega), ao (37 + d) (by omega) (by omega) (by omega) (by omega) (by omega), ao (40 + d) (by omega) (by omega) (by omega) (by omega) (by omega)]
      refine ⟨q1, q2, fun j hj => ?_⟩
      rw [ao (46 + 6 * d + j) (by omega) (by omega) (by omega) (by omega) (by omega)]; exact q3 j hj
  · by_cases e : d = c
    · subst e; rw [up_e]; exact u4
    · rw [up_o e, ro (9 + 2 * d) (by omega) (by omega) (by omega)]; exact h5 d hd
  · rw [ro 0 (by omega) (by omega) (by omega)]; exact h6
  · rw [ro 0 (by omega) (by omega) (by omega), ao 0 (by omega) (by omega) (by omega) (by omega) (by omega)]; exact h7
/-- what stands behind sendsHome, put into the river -/
def put2 (r : Nat → Nat → Int32) (t c : Nat) (Rt Rc : Nat → Nat → Int32) : Nat → Nat → Int32 := spl (spl r (3 + t) 1 Rt) (9 + 2 * c) 2 Rc
theorem put2_t {Rt Rc : Nat → Nat → Int32} (ht : t < 6) (hc : c < 3) : put2 r t c Rt Rc (3 + t) = Rt 0 := by
  unfold put2; rw [spl_out (by omega), spl_in (by omega), show 3 + t - (3 + t) = 0 by omega]
theorem put2_c {Rt Rc : Nat → Nat → Int32} : put2 r t c Rt Rc (9 + 2 * c) = Rc 0 := by
  unfold put2; rw [spl_in (by omega), show 9 + 2 * c - (9 + 2 * c) = 0 by omega]
theorem put2_b {Rt Rc : Nat → Nat → Int32} : put2 r t c Rt Rc (10 + 2 * c) = Rc 1 := by
  unfold put2; rw [spl_in (by omega), show 10 + 2 * c - (9 + 2 * c) = 1 by omega]
theorem put2_o {Rt Rc : Nat → Nat → Int32} {q : Nat} (h1 : q ≠ 3 + t) (h2 : q ≠ 9 + 2 * c) (h3 : q ≠ 10 + 2 * c) : put2 r t c Rt Rc q = r q := by
  unfold put2; rw [spl_out (by omega), spl_out (by omega)]
theorem ask_sim (hT : T ≤ 6) (h : RV T kd cost th go ga K sp r a) (ht : t < T) (hc : c < 3) (hK : K c) : d_X0_wouldAsk (shf r (9 + 2 * c)) (shf r (3 + t)) (nI t) = askA kd a c t := by
  obtain ⟨q1, q2, q3⟩ := h.2.2.2.1 c hc hK
  have g := h.2.1 t ht
  rw [wouldAsk_eq (by omega)]
  show (if r (3 + t + 0) 2 = 3 then imax (r (9 + 2 * c + 0) 3) (r (9 + 2 * c + 1) t / 2) / 2 else imax (r (9 + 2 * c + 0) 3) (r (9 + 2 * c + 1) t / 2)) = _
  rw [show 3 + t + 0 = 3 + t by omega, show 9 + 2 * c + 0 = 9 + 2 * c by omega, show 9 + 2 * c + 1 = 10 + 2 * c by omega, g.2.1, q2, q3 t ht, imax_le]
  rfl
theorem pay_sim {z : Int32} (hT : T ≤ 6) (h : RV T kd cost th go ga K sp r a) (ht : t < T) (hc : c < 3) (hK : K c) : RV T kd cost th go ga K (upd sp c (sp c + z)) (put2 r t c (d_X0_takePay (shf r (9 + 2 * c)) (shf r (3 + t)) (nI t) z).2 (d_X0_takePay (shf r (9 + 2 * c)) (shf r (3 + t)) (nI t) z).1) (payA kd a c t z) := by
  obtain ⟨e1, e2⟩ := takePay_eq (Rc := shf r (9 + 2 * c)) (Rt := shf r (3 + t)) (t := t) (z := z) (by omega)
  rw [e1, e2]
  obtain ⟨q1, q2, q3, q4, q5, q6, q7⟩ := h.2.1 t ht
  obtain ⟨p1, p2, p3⟩ := h.2.2.2.1 c hc hK
  have p5 := h.2.2.2.2.1 c hc
  have f0 : shf r (3 + t) 0 = r (3 + t) := rfl
  have g0 : shf r (9 + 2 * c) 0 = r (9 + 2 * c) := rfl
  have g1 : shf r (9 + 2 * c) 1 = r (10 + 2 * c) := by show r (9 + 2 * c + 1) = _; rw [show 9 + 2 * c + 1 = 10 + 2 * c by omega]
  have k0 : pt (pt (shf r (9 + 2 * c)) 0 4 (shf r (9 + 2 * c) 0 4 + z)) 1 t (2 * z) 0 = upd (r (9 + 2 * c)) 4 (sp c + z) := by rw [pt_k (by decide), pt_eq, g0, p5]
  have k1 : pt (pt (shf r (9 + 2 * c)) 0 4 (shf r (9 + 2 * c) 0 4 + z)) 1 t (2 * z) 1 = upd (r (10 + 2 * c)) t (2 * z) := by rw [pt_eq, pt_k (by decide), g1]
  refine RV_up hT h ht hc hK (fun q => put2_o) (fun k k1 k2 k3 k4 k5 => by unfold payA; rw [up_o k5, up_o k3, up_o k1]) ?_ ?_ ?_ ?_ ?_ ?_ ?_ ?_ ?_
  · intro j j1 j3 j7; rw [put2_t (by omega) hc, give0, up_o j7, up_o j3, f0]
  · rw [put2_t (by omega) hc, give0, up_o (by decide), up_o (by decide), f0, q1]; unfold payA; rw [up_o (by omega), up_o (by omega), up_o (by omega)]
  · rw [put2_t (by omega) hc, give0, up_o (by decide), up_e, f0, q3, q2]; unfold payA; rw [up_o (by omega), up_o (by omega), up_e]
  · rw [put2_t (by omega) hc, give0, up_e, f0, q7]; unfold payA; rw [up_o (by omega), up_e]
  · intro j j2 j4; rw [put2_c, k0, up_o j4]
  · rw [put2_c, k0, up_o (by decide), p1]; unfold payA; rw [up_o (by omega), up_o (by omega), up_o (by omega)]
  · rw [put2_c, k0, up_e]
  · rw [put2_b, k1, up_e]; unfold payA; rw [up_e]
  · intro j hj; rw [put2_b, k1, up_o hj]
theorem held_eq {u : Nat → Nat → Int32} : d_X5_menHeldOff u = (if u 0 2 = 1 then (6 : Int32) else 5) * u 0 5 := by
  unfold d_X5_menHeldOff
  by_cases h : u 0 2 = 1
  · rw [if_pos h, if_pos h, Int32.mul_comm]
  · rw [if_neg h, if_neg h, Int32.mul_comm]
theorem hit_sim (hT : T ≤ 6) (h : RV T kd cost th go ga K sp r a) (ht : t < T) (hc : c < 3) (hK : K c) (hm : rg 99 (a (37 + c))) : ((hitC (shf r (3 + t)) (shf r (9 + 2 * c)) (nI t)).1 = if (hitA kd a c t).2.2 = true then 0 else 1) ∧ RV T kd cost th go ga K (upd sp c (sp c + (hitA kd a c t).2.1)) (put2 r t c (hitC (shf r (3 + t)) (shf r (9 + 2 * c)) (nI t)).2.1 (hitC (shf r (3 + t)) (shf r (9 + 2 * c)) (nI t)).2.2) (hitA kd a c t).1 := by
  obtain ⟨q1, q2, q3, q4, q5, q6, q7⟩ := h.2.1 t ht
  obtain ⟨p1, p2, p3⟩ := h.2.2.2.1 c hc hK
  have p5 := h.2.2.2.2.1 c hc
  have f0 : shf r (3 + t) 0 = r (3 + t) := rfl
  have g0 : shf r (9 + 2 * c) 0 = r (9 + 2 * c) := rfl
  have g1 : shf r (9 + 2 * c) 1 = r (10 + 2 * c) := by show r (9 + 2 * c + 1) = _; rw [show 9 + 2 * c + 1 = 10 + 2 * c by omega]
  have hd : d_X5_menHeldOff (shf r (3 + t)) = (if kd t = 1 then (6 : Int32) else 5) * a (13 + t) := by rw [held_eq, f0, q2, q5]
  by_cases z : a (37 + c) ≤ (if kd t = 1 then (6 : Int32) else 5) * a (13 + t)
  · have e : hitA kd a c t = (upd a (37 + c) (if a (37 + c) ≤ 3 then 1 else a (37 + c) - 2), 0, true) := if_pos z
    have e2 : hitC (shf r (3 + t)) (shf r (9 + 2 * c)) (nI t) = (0, shf r (3 + t), pt (shf r (9 + 2 * c)) 0 2 (imax 1 (a (37 + c) - 2))) := by
      unfold hitC
      rw [hd, g0, p1, if_pos z]
    rw [e, e2]
    refine ⟨(if_pos rfl).symm, ?_⟩
    dsimp only
    rw [Int32.add_zero]
    have k0 : pt (shf r (9 + 2 * c)) 0 2 (imax 1 (a (37 + c) - 2)) 0 = upd (r (9 + 2 * c)) 2 (imax 1 (a (37 + c) - 2)) := by rw [pt_eq, g0]
    have k1 : pt (shf r (9 + 2 * c)) 0 2 (imax 1 (a (37 + c) - 2)) 1 = r (10 + 2 * c) := by rw [pt_k (by decide), g1]
    refine RV_up hT h ht hc hK (fun q => put2_o) (fun k k1 k2 k3 k4 k5 => up_o k4) ?_ ?_ ?_ ?_ ?_ ?_ ?_ ?_ ?_
    · intro j j1 j3 j7; rw [put2_t (by omega) hc]; rfl
    · rw [put2_t (by omega) hc, f0, q1, up_o (by omega)]
    · rw [put2_t (by omega) hc, f0, q3, up_o (by omega)]
    · rw [put2_t (by omega) hc, f0, q7, up_o (by omega)]
    · intro j j2 j4; rw [put2_c, k0, up_o j2]
    · rw [put2_c, k0, up_e, up_e, imax_men hm]
    · rw [put2_c, k0, up_o (by decide), p5]
    · rw [put2_b, k1, up_o (by omega), p3 t ht]
    · intro j hj; rw [put2_b, k1]
  · have e : hitA kd a c t = (upd (upd (upd a (1 + t) 0) (25 + t) 1) (46 + 6 * c + t) 0, a (1 + t), false) := if_neg z
    obtain ⟨b1, b2⟩ := burn_eq (Rc := shf r (9 + 2 * c)) (Rt := shf r (3 + t)) (t := t) (by omega)
    have e2 : hitC (shf r (3 + t)) (shf r (9 + 2 * c)) (nI t) = (1, pt (pt (shf r (3 + t)) 0 3 0) 0 1 1, pt (pt (shf r (9 + 2 * c)) 0 4 (sp c + a (1 + t))) 1 t 0) := by
      unfold hitC
      rw [hd, b1, b2, g0, p1, if_neg z, p5, f0, q3]
    rw [e, e2]
    refine ⟨(if_neg (show ¬ false = true by decide)).symm, ?_⟩
    dsimp only
    have k0 : pt (pt (shf r (9 + 2 * c)) 0 4 (sp c + a (1 + t))) 1 t 0 0 = upd (r (9 + 2 * c)) 4 (sp c + a (1 + t)) := by rw [pt_k (by decide), pt_eq, g0]
    have k1 : pt (pt (shf r (9 + 2 * c)) 0 4 (sp c + a (1 + t))) 1 t 0 1 = upd (r (10 + 2 * c)) t 0 := by rw [pt_eq, pt_k (by decide), g1]
    have k2 : pt (pt (shf r (3 + t)) 0 3 0) 0 1 1 0 = upd (upd (r (3 + t)) 3 0) 1 1 := by rw [pt_eq, pt_eq, f0]
    refine RV_up hT h ht hc hK (fun q => put2_o) (fun k k1 k2 k3 k4 k5 => by rw [up_o k5, up_o k2, up_o k1]) ?_ ?_ ?_ ?_ ?_ ?_ ?_ ?_ ?_
    · intro j j1 j3 j7; rw [put2_t (by omega) hc, k2, up_o j1, up_o j3]
    · rw [put2_t (by omega) hc, k2, up_e, up_o (by omega), up_e]
    · rw [put2_t (by omega) hc, k2, up_o (by decide), up_e, up_o (by omega), up_o (by omega), up_e]
    · rw [put2_t (by omega) hc, k2, up_o (by decide), up_o (by decide), q7, up_o (by omega), up_o (by omega), up_o (by omega)]
    · intro j j2 j4; rw [put2_c, k0, up_o j4]
    · rw [put2_c, k0, up_o (by decide), p1, up_o (by omega), up_o (by omega), up_o (by omega)]
    · rw [put2_c, k0, up_e]
    · rw [put2_b, k1, up_e, up_e]
    · intro j hj; rw [put2_b, k1, up_o hj]
theorem send_sim (hT : T ≤ 6) (h : RV T kd cost th go ga K sp r a) (ht : t < T) (hc : c < 3) (hK : K c) (hm : rg 99 (a (37 + c))) : ((d_X3_sendsHome (shf r (3 + t)) (shf r (9 + 2 * c)) (nI t)).1 = if (stpA kd a c t).2.2 = true then 0 else 1) ∧ RV T kd cost th go ga K (upd sp c (sp c + (stpA kd a c t).2.1)) (put2 r t c (d_X3_sendsHome (shf r (3 + t)) (shf r (9 + 2 * c)) (nI t)).2.1 (d_X3_sendsHome (shf r (3 + t)) (shf r (9 + 2 * c)) (nI t)).2.2) (stpA kd a c t).1 := by
  obtain ⟨q1, q2, q3, q4, q5, q6, q7⟩ := h.2.1 t ht
  have hA := ask_sim hT h ht hc hK
  rw [sendsHome_eq hA.symm]
  have f6 : shf r (3 + t) 0 6 = a (19 + t) := q6
  have f3 : shf r (3 + t) 0 3 = a (1 + t) := q3
  rw [f6, f3]
  by_cases z1 : a (19 + t) = 0 ∧ ¬ a (1 + t) < askA kd a c t
  · have e : stpA kd a c t = (payA kd a c t (askA kd a c t), askA kd a c t, false) := if_pos z1
    rw [if_pos z1, e]
    exact ⟨(if_neg (show ¬ false = true by decide)).symm, pay_sim hT h ht hc hK⟩
  · rw [if_neg z1]
    by_cases z2 : a (19 + t) = 2 ∧ ¬ a (1 + t) < askA kd a c t / 3
    · have e : stpA kd a c t = (payA kd a c t (askA kd a c t / 3), askA kd a c t / 3, true) := (if_neg z1).trans (if_pos z2)
      rw [if_pos z2, e]
      exact ⟨(if_pos rfl).symm, pay_sim hT h ht hc hK⟩
    · have e : stpA kd a c t = hitA kd a c t := (if_neg z1).trans (if_neg z2)
      rw [if_neg z2, e]
      exact hit_sim hT h ht hc hK hm
end CS
