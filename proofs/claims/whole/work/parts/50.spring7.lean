/-! a spring on the reference's 64 numbers, as a function of them alone -/
def askA (kd a : Nat → Int32) (c t : Nat) : Int32 := if kd t = 3 then (if a (46 + 6 * c + t) / 2 ≤ a (40 + c) then a (40 + c) else a (46 + 6 * c + t) / 2) / 2 else (if a (46 + 6 * c + t) / 2 ≤ a (40 + c) then a (40 + c) else a (46 + 6 * c + t) / 2)
def payA (kd a : Nat → Int32) (c t : Nat) (n : Int32) : Nat → Int32 := upd (upd (upd a (1 + t) (a (1 + t) - (if kd t = 2 then n - n / 2 else n))) (31 + t) (a (31 + t) + n)) (46 + 6 * c + t) (2 * n)
def hitA (kd a : Nat → Int32) (c t : Nat) : (Nat → Int32) × Int32 × Bool := if a (37 + c) ≤ (if kd t = 1 then 6 else 5) * a (13 + t) then (upd a (37 + c) (if a (37 + c) ≤ 3 then 1 else a (37 + c) - 2), 0, true) else (upd (upd (upd a (1 + t) 0) (25 + t) 1) (46 + 6 * c + t) 0, a (1 + t), false)
/-- what a crew does at a town that stands: the numbers, what it takes, whether it goes on -/
def stpA (kd a : Nat → Int32) (c t : Nat) : (Nat → Int32) × Int32 × Bool :=
  if a (19 + t) = 0 ∧ ¬ a (1 + t) < askA kd a c t then (payA kd a c t (askA kd a c t), askA kd a c t, false)
  else if a (19 + t) = 2 ∧ ¬ a (1 + t) < askA kd a c t / 3 then (payA kd a c t (askA kd a c t / 3), askA kd a c t / 3, true)
  else hitA kd a c t
def cmA (kd : Nat → Int32) (T c : Nat) : Nat → (Nat → Int32) → Int32 → Nat → (Nat → Int32) × Int32
  | 0, a, h, _ => (a, h)
  | n + 1, a, h, t => if T ≤ t then (a, h) else if a (25 + t) = 1 then cmA kd T c n a h (t + 1) else
      if (stpA kd a c t).2.2 = true then cmA kd T c n (stpA kd a c t).1 (h + (stpA kd a c t).2.1) (t + 1) else ((stpA kd a c t).1, h + (stpA kd a c t).2.1)
theorem askOf_eq {M q R : Nat → Nat → Int32} {c : Int32} {t : Nat} (ht : t < 6) : d_X7_askOf M q R c (nI t) = askA (q 0) (R 0) c.toNatClampNeg t := by
  have e2 : (nI t).toNatClampNeg = t := nI_clamp (by omega)
  simp only [d_X7_askOf, lt, askA, e2]
  split <;> split <;> rfl
theorem pays_eq {M q R : Nat → Nat → Int32} {c : Int32} {t : Nat} {n : Int32} (ht : t < 6) : (d_X7_pays M q R c (nI t) n).1 = n ∧ (d_X7_pays M q R c (nI t) n).2 0 = payA (q 0) (R 0) c.toNatClampNeg t n := by
  have e2 : (nI t).toNatClampNeg = t := nI_clamp (by omega)
  have e3 : ∀ z : Int32, upd (R 0) (1 + t) z (31 + t) = R 0 (31 + t) := fun z => by simp only [upd]; rw [if_neg (by omega)]
  simp only [d_X7_pays, lt, payA, e2]
  split
  · rename_i h; simp only [if_pos h, pt_eq, e3, and_self]
  · rename_i h; simp only [if_neg h, pt_eq, e3, and_self]
theorem L8_0 {M q R : Nat → Nat → Int32} {c h : Int32} (n t : Nat) : d_X7_comeUp_L8 M q c n R h 0 t = (R, h) := by
  cases n with
  | zero => rfl
  | succ n =>
    rw [d_X7_comeUp_L8]
    by_cases c1 : M 0 10 ≤ nI t
    · exact if_pos c1
    · exact (if_neg c1).trans (if_pos rfl)
def Fa (X : (Nat → Nat → Int32) × Int32) : (Nat → Int32) × Int32 := (X.1 0, X.2)
def hitB (M q : Nat → Nat → Int32) (c : Int32) (n : Nat) (R : Nat → Nat → Int32) (h : Int32) (t : Nat) : (Nat → Nat → Int32) × Int32 :=
  if (q 0 t) = (1 : Int32) then
    if (R 0 (37 + c.toNatClampNeg)) ≤ ((6 : Int32) * (R 0 (13 + t))) then
      if (R 0 (37 + c.toNatClampNeg)) ≤ (3 : Int32) then
        d_X7_comeUp_L8 M q c n (pt R 0 (37 + c.toNatClampNeg) (1 : Int32)) h 1 (t + 1)
      else
        d_X7_comeUp_L8 M q c n (pt R 0 (37 + c.toNatClampNeg) ((R 0 (37 + c.toNatClampNeg)) - (2 : Int32))) h 1 (t + 1)
    else
      d_X7_comeUp_L8 M q c n (pt (pt (pt R 0 (1 + t) (0 : Int32)) 0 (25 + t) (1 : Int32)) 0 ((46 + (6 * c.toNatClampNeg)) + t) (0 : Int32)) (h + (R 0 (1 + t))) (0 : Int32) (t + 1)
  else
    if (R 0 (37 + c.toNatClampNeg)) ≤ ((5 : Int32) * (R 0 (13 + t))) then
      if (R 0 (37 + c.toNatClampNeg)) ≤ (3 : Int32) then
        d_X7_comeUp_L8 M q c n (pt R 0 (37 + c.toNatClampNeg) (1 : Int32)) h 1 (t + 1)
      else
        d_X7_comeUp_L8 M q c n (pt R 0 (37 + c.toNatClampNeg) ((R 0 (37 + c.toNatClampNeg)) - (2 : Int32))) h 1 (t + 1)
    else
      d_X7_comeUp_L8 M q c n (pt (pt (pt R 0 (1 + t) (0 : Int32)) 0 (25 + t) (1 : Int32)) 0 ((46 + (6 * c.toNatClampNeg)) + t) (0 : Int32)) (h + (R 0 (1 + t))) (0 : Int32) (t + 1)
theorem hitB_eq {M q R : Nat → Nat → Int32} {c h : Int32} {n t T : Nat} (ih : ∀ (R : Nat → Nat → Int32) (h : Int32), Fa (d_X7_comeUp_L8 M q c n R h 1 (t + 1)) = cmA (q 0) T c.toNatClampNeg n (R 0) h (t + 1)) : Fa (hitB M q c n R h t) = if (hitA (q 0) (R 0) c.toNatClampNeg t).2.2 = true then cmA (q 0) T c.toNatClampNeg n (hitA (q 0) (R 0) c.toNatClampNeg t).1 (h + (hitA (q 0) (R 0) c.toNatClampNeg t).2.1) (t + 1) else ((hitA (q 0) (R 0) c.toNatClampNeg t).1, h + (hitA (q 0) (R 0) c.toNatClampNeg t).2.1) := by
  have b : ∀ k : Int32, (if q 0 t = 1 then (6 : Int32) else 5) = k → hitB M q c n R h t = if R 0 (37 + c.toNatClampNeg) ≤ k * R 0 (13 + t) then (if (R 0 (37 + c.toNatClampNeg)) ≤ (3 : Int32) then
        d_X7_comeUp_L8 M q c n (pt R 0 (37 + c.toNatClampNeg) (1 : Int32)) h 1 (t + 1)
      else
        d_X7_comeUp_L8 M q c n (pt R 0 (37 + c.toNatClampNeg) ((R 0 (37 + c.toNatClampNeg)) - (2 : Int32))) h 1 (t + 1)) else d_X7_comeUp_L8 M q c n (pt (pt (pt R 0 (1 + t) (0 : Int32)) 0 (25 + t) (1 : Int32)) 0 ((46 + (6 * c.toNatClampNeg)) + t) (0 : Int32)) (h + (R 0 (1 + t))) (0 : Int32) (t + 1) := by
    intro k hk
    by_cases h1 : q 0 t = 1
    · rw [if_pos h1] at hk; subst hk; exact if_pos h1
    · rw [if_neg h1] at hk; subst hk; exact if_neg h1
  have b := b _ rfl
  by_cases h2 : R 0 (37 + c.toNatClampNeg) ≤ (if q 0 t = 1 then (6 : Int32) else 5) * R 0 (13 + t)
  · have e : hitA (q 0) (R 0) c.toNatClampNeg t = (upd (R 0) (37 + c.toNatClampNeg) (if R 0 (37 + c.toNatClampNeg) ≤ 3 then 1 else R 0 (37 + c.toNatClampNeg) - 2), 0, true) := if_pos h2
    rw [e, b, if_pos h2]
    show _ = if true = true then cmA _ _ _ _ (upd (R 0) _ _) (h + 0) _ else _
    rw [if_pos rfl, Int32.add_zero]
    by_cases h3 : R 0 (37 + c.toNatClampNeg) ≤ 3
    · rw [if_pos h3, if_pos h3, ih, pt_eq]
    · rw [if_neg h3, if_neg h3, ih, pt_eq]
  · have e : hitA (q 0) (R 0) c.toNatClampNeg t = (upd (upd (upd (R 0) (1 + t) 0) (25 + t) 1) (46 + 6 * c.toNatClampNeg + t) 0, R 0 (1 + t), false) := if_neg h2
    rw [e, b, if_neg h2, L8_0]
    show (_, _) = if false = true then _ else (_, _)
    rw [if_neg (by decide)]
    dsimp only
    rw [pt_eq, pt_eq, pt_eq]
theorem L8_eq {M q : Nat → Nat → Int32} {c : Int32} {T : Nat} (hT : M 0 10 = nI T) (hT6 : T ≤ 6) : ∀ (n t : Nat) (R : Nat → Nat → Int32) (h : Int32), t ≤ 6 → Fa (d_X7_comeUp_L8 M q c n R h 1 t) = cmA (q 0) T c.toNatClampNeg n (R 0) h t := by
  intro n
  induction n with
  | zero => intro t R h ht; rfl
  | succ n ih =>
    intro t R h ht
    rw [cmA]
    by_cases c1 : T ≤ t
    · have e : d_X7_comeUp_L8 M q c (n + 1) R h 1 t = (R, h) := by rw [d_X7_comeUp_L8]; exact if_pos (by rw [hT]; exact nI_le c1 (by omega))
      rw [e, if_pos c1]; rfl
    · have c1' : ¬ M 0 10 ≤ nI t := by rw [hT]; exact nI_ge (by omega) (by omega)
      have c2' : ¬ (1 : Int32) = 0 := by decide
      rw [if_neg c1]
      by_cases c3 : R 0 (25 + t) = 1
      · have e : d_X7_comeUp_L8 M q c (n + 1) R h 1 t = d_X7_comeUp_L8 M q c n R h 1 (t + 1) := by rw [d_X7_comeUp_L8]; exact (if_neg c1').trans ((if_neg c2').trans (if_pos c3))
        rw [e, if_pos c3]
        exact ih (t + 1) R h (by omega)
      · rw [if_neg c3]
        have iht := fun (R : Nat → Nat → Int32) (h : Int32) => ih (t + 1) R h (by omega)
        have eA : askA (q 0) (R 0) c.toNatClampNeg t = d_X7_askOf M q R c (nI t) := (askOf_eq (by omega)).symm
        generalize askA (q 0) (R 0) c.toNatClampNeg t = A at eA
        have hh := hitB_eq (R := R) (h := h) (T := T) iht
        have pay : ∀ z, (d_X7_pays M q R c (nI t) z).1 = z ∧ (d_X7_pays M q R c (nI t) z).2 0 = payA (q 0) (R 0) c.toNatClampNeg t z := fun z => pays_eq (by omega)
        have eS : stpA (q 0) (R 0) c.toNatClampNeg t = if R 0 (19 + t) = 0 ∧ ¬ R 0 (1 + t) < A then (payA (q 0) (R 0) c.toNatClampNeg t A, A, false) else if R 0 (19 + t) = 2 ∧ ¬ R 0 (1 + t) < A / 3 then (payA (q 0) (R 0) c.toNatClampNeg t (A / 3), A / 3, true) else hitA (q 0) (R 0) c.toNatClampNeg t := by
          rw [eA, askOf_eq (by omega)]; rfl
        by_cases w0 : R 0 (19 + t) = 0
        · by_cases l1 : R 0 (1 + t) < A
          · rw [if_neg (fun z => z.2 l1)] at eS
            by_cases w2 : R 0 (19 + t) = 2
            · rw [w0] at w2; exact absurd w2 (by decide)
            · rw [if_neg (fun z => w2 z.1)] at eS
              have e : d_X7_comeUp_L8 M q c (n + 1) R h 1 t = hitB M q c n R h t := by rw [d_X7_comeUp_L8]; exact (if_neg c1').trans ((if_neg c2').trans ((if_neg c3).trans ((lt_eq eA).trans ((if_pos w0).trans ((if_pos l1).trans ((if_neg w2).trans rfl))))))
              rw [e, eS]; exact hh
          · rw [if_pos ⟨w0, l1⟩] at eS
            have e : d_X7_comeUp_L8 M q c (n + 1) R h 1 t = d_X7_comeUp_L8 M q c n (d_X7_pays M q R c (nI t) A).2 (h + (d_X7_pays M q R c (nI t) A).1) 0 (t + 1) := by rw [d_X7_comeUp_L8]; exact (if_neg c1').trans ((if_neg c2').trans ((if_neg c3).trans ((lt_eq eA).trans ((if_pos w0).trans ((if_neg l1).trans (lt_eq rfl))))))
            rw [e, eS, L8_0]
            show ((d_X7_pays M q R c (nI t) A).2 0, h + (d_X7_pays M q R c (nI t) A).1) = if false = true then _ else (_, _)
            rw [if_neg (by decide), (pay A).1, (pay A).2]
        · rw [if_neg (fun z => w0 z.1)] at eS
          by_cases w2 : R 0 (19 + t) = 2
          · by_cases l3 : R 0 (1 + t) < A / 3
            · rw [if_neg (fun z => z.2 l3)] at eS
              have e : d_X7_comeUp_L8 M q c (n + 1) R h 1 t = hitB M q c n R h t := by rw [d_X7_comeUp_L8]; exact (if_neg c1').trans ((if_neg c2').trans ((if_neg c3).trans ((lt_eq eA).trans ((if_neg w0).trans ((if_pos w2).trans ((if_pos l3).trans rfl))))))
              rw [e, eS]; exact hh
            · rw [if_pos ⟨w2, l3⟩] at eS
              have e : d_X7_comeUp_L8 M q c (n + 1) R h 1 t = d_X7_comeUp_L8 M q c n (d_X7_pays M q R c (nI t) (A / 3)).2 (h + (d_X7_pays M q R c (nI t) (A / 3)).1) 1 (t + 1) := by rw [d_X7_comeUp_L8]; exact (if_neg c1').trans ((if_neg c2').trans ((if_neg c3).trans ((lt_eq eA).trans ((if_neg w0).trans ((if_pos w2).trans ((if_neg l3).trans (lt_eq rfl)))))))
              rw [e, eS, iht]
              show _ = if true = true then cmA _ _ _ _ (payA _ _ _ _ _) (h + A / 3) _ else _
              rw [if_pos rfl, (pay (A / 3)).1, (pay (A / 3)).2]
          · rw [if_neg (fun z => w2 z.1)] at eS
            have e : d_X7_comeUp_L8 M q c (n + 1) R h 1 t = hitB M q c n R h t := by rw [d_X7_comeUp_L8]; exact (if_neg c1').trans ((if_neg c2').trans ((if_neg c3).trans ((lt_eq eA).trans ((if_neg w0).trans ((if_neg w2).trans rfl)))))
            rw [e, eS]; exact hh
def sat (m x : Int32) : Int32 := if x ≤ m then x else m
def comA (kd : Nat → Int32) (T c : Nat) (a : Nat → Int32) : Nat → Int32 := upd (cmA kd T c 7 a 0 0).1 (37 + c) (sat 99 ((cmA kd T c 7 a 0 0).1 (37 + c) + (cmA kd T c 7 a 0 0).2 / 10))
theorem comeUp_eq {M q R : Nat → Nat → Int32} {c : Int32} {T : Nat} (hT : M 0 10 = nI T) (hT6 : T ≤ 6) : d_X7_comeUp M q R c 0 = comA (q 0) T c.toNatClampNeg (R 0) := by
  have h := L8_eq (q := q) (c := c) hT hT6 7 0 R 0 (by omega)
  unfold comA
  rw [← h]
  generalize hs : d_X7_comeUp_L8 M q c 7 R 0 1 0 = s
  have e : d_X7_comeUp M q R c = if s.1 0 (37 + c.toNatClampNeg) + s.2 / 10 ≤ 99 then pt s.1 0 (37 + c.toNatClampNeg) (s.1 0 (37 + c.toNatClampNeg) + s.2 / 10) else pt s.1 0 (37 + c.toNatClampNeg) 99 := by
    rw [d_X7_comeUp]; exact (lt_eq hs.symm).trans (lt_eq rfl)
  rw [e]
  show _ = upd (s.1 0) (37 + c.toNatClampNeg) (sat 99 (s.1 0 (37 + c.toNatClampNeg) + s.2 / 10))
  unfold sat
  split
  · rw [pt_eq]
  · rw [pt_eq]
def earnA (T : Nat) (a : Nat → Int32) : Nat → Int32 := fun k => if (1 ≤ k ∧ k < 1 + T) ∧ a (24 + k) = 0 then sat 999 (a k + a (6 + k)) else a k
theorem earn_eq {M : Nat → Nat → Int32} {T : Nat} (hT : M 0 10 = nI T) (hT6 : T ≤ 6) : ∀ (n t : Nat) (R : Nat → Nat → Int32), t ≤ 6 → T < t + n → d_X7_spring_L2 M n R t 0 = fun k => if (1 + t ≤ k ∧ k < 1 + T) ∧ R 0 (24 + k) = 0 then sat 999 (R 0 k + R 0 (6 + k)) else R 0 k := by
  intro n
  induction n with
  | zero =>
    intro t R ht hn
    funext k
    rw [if_neg (by omega)]; rfl
  | succ n ih =>
    intro t R ht hn
    by_cases c1 : T ≤ t
    · have e : d_X7_spring_L2 M (n + 1) R t = R := by rw [d_X7_spring_L2]; exact if_pos (by rw [hT]; exact nI_le c1 (by omega))
      rw [e]
      funext k
      rw [if_neg (by omega)]
    · have c1' : ¬ M 0 10 ≤ nI t := by rw [hT]; exact nI_ge (by omega) (by omega)
      by_cases c2 : R 0 (25 + t) = 0
      · have e : d_X7_spring_L2 M (n + 1) R t = d_X7_spring_L2 M n (pt R 0 (1 + t) (sat 999 (R 0 (1 + t) + R 0 (7 + t)))) (t + 1) := by
          rw [d_X7_spring_L2]
          refine (if_neg c1').trans ((if_pos c2).trans ?_)
          unfold sat
          by_cases c3 : R 0 (1 + t) + R 0 (7 + t) ≤ 999
          · rw [if_pos c3, if_pos c3]
          · rw [if_neg c3, if_neg c3]
        rw [e, ih _ _ (by omega) (by omega), pt_eq]
        funext k
        by_cases hk : k = 1 + t
        · subst hk
          rw [if_neg (by omega), if_pos ⟨by omega, by rw [show 24 + (1 + t) = 25 + t by omega]; exact c2⟩]
          simp only [upd, if_true]
          rw [show 6 + (1 + t) = 7 + t by omega]
        · by_cases hr : 1 + t ≤ k ∧ k < 1 + T
          · have u1 : upd (R 0) (1 + t) (sat 999 (R 0 (1 + t) + R 0 (7 + t))) (24 + k) = R 0 (24 + k) := by simp only [upd]; rw [if_neg (by omega)]
            have u2 : upd (R 0) (1 + t) (sat 999 (R 0 (1 + t) + R 0 (7 + t))) k = R 0 k := by simp only [upd]; rw [if_neg hk]
            have u3 : upd (R 0) (1 + t) (sat 999 (R 0 (1 + t) + R 0 (7 + t))) (6 + k) = R 0 (6 + k) := by simp only [upd]; rw [if_neg (by omega)]
            rw [u1, u2, u3]
            by_cases hb : R 0 (24 + k) = 0
            · rw [if_pos ⟨by omega, hb⟩, if_pos ⟨hr, hb⟩]
            · rw [if_neg (fun z => hb z.2), if_neg (fun z => hb z.2)]
          · rw [if_neg (fun z => hr ⟨by omega, z.1.2⟩), if_neg (fun z => hr z.1)]
            simp only [upd]; rw [if_neg hk]
      · have e : d_X7_spring_L2 M (n + 1) R t = d_X7_spring_L2 M n R (t + 1) := by
          rw [d_X7_spring_L2]; exact (if_neg c1').trans (if_neg c2)
        rw [e, ih _ _ (by omega) (by omega)]
        funext k
        by_cases hk : k = 1 + t
        · subst hk
          rw [if_neg (by omega), if_neg (fun z => c2 (by have := z.2; rw [show 24 + (1 + t) = 25 + t by omega] at this; exact this))]
        · by_cases hb : (1 + t ≤ k ∧ k < 1 + T) ∧ R 0 (24 + k) = 0
          · rw [if_pos ⟨by omega, hb.2⟩, if_pos hb]
          · rw [if_neg (fun z => hb ⟨by omega, z.2⟩), if_neg hb]
