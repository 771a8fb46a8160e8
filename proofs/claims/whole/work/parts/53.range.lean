/-! ranges of a river's numbers, kept by a spring -/
def rg (N : Nat) (x : Int32) : Prop := ∃ n, n ≤ N ∧ x = nI n
theorem nI_sub {a b : Nat} (h : b ≤ a) : nI a - nI b = nI (a - b) := by
  have e : nI a = nI (a - b) + nI b := by rw [nI_add]; congr 1; omega
  rw [e, Int32.add_sub_cancel]
theorem nI_div {a b : Nat} (ha : a < 2 ^ 31) (hb0 : 0 < b) (hb : b < 2 ^ 31) : nI a / nI b = nI (a / b) := by
  apply Int32.toInt_inj.mp
  have hq : a / b < 2 ^ 31 := Nat.lt_of_le_of_lt (Nat.div_le_self a b) ha
  rw [Int32.toInt_div, nI_toInt ha, nI_toInt hb, nI_toInt hq]
  have e : (a : Int).tdiv (b : Int) = ((a / b : Nat) : Int) := by rw [Int.ofNat_tdiv]
  rw [e]
  clear e
  generalize a / b = q at hq ⊢
  exact Int.bmod_eq_of_le (by omega) (by omega)
theorem rg_add {N M : Nat} {x y : Int32} (h : rg N x) (g : rg M y) : rg (N + M) (x + y) := by
  obtain ⟨n, hn, rfl⟩ := h
  obtain ⟨m, hm, rfl⟩ := g
  exact ⟨n + m, by omega, nI_add n m⟩
theorem rg_mono {N M : Nat} {x : Int32} (h : rg N x) (hNM : N ≤ M) : rg M x := by
  obtain ⟨n, hn, rfl⟩ := h
  exact ⟨n, by omega, rfl⟩
theorem rg_sub {N M : Nat} {x y : Int32} (h : rg N x) (g : rg M y) (hN : N < 2 ^ 31) (hM : M < 2 ^ 31) (hl : ¬ x < y) : rg N (x - y) := by
  obtain ⟨n, hn, rfl⟩ := h
  obtain ⟨m, hm, rfl⟩ := g
  have : m ≤ n := Nat.not_lt.mp fun z => hl (nI_lt z (by omega))
  exact ⟨n - m, by omega, nI_sub this⟩
theorem rg_half {N : Nat} {x : Int32} (h : rg N x) (hN : N < 2 ^ 31) : rg (N / 2) (x / 2) := by
  obtain ⟨n, hn, rfl⟩ := h
  exact ⟨n / 2, Nat.div_le_div_right hn, nI_div (by omega) (by decide) (by decide)⟩
theorem rg_third {N : Nat} {x : Int32} (h : rg N x) (hN : N < 2 ^ 31) : rg (N / 3) (x / 3) := by
  obtain ⟨n, hn, rfl⟩ := h
  exact ⟨n / 3, Nat.div_le_div_right hn, nI_div (by omega) (by decide) (by decide)⟩
theorem rg_tenth {N : Nat} {x : Int32} (h : rg N x) (hN : N < 2 ^ 31) : rg (N / 10) (x / 10) := by
  obtain ⟨n, hn, rfl⟩ := h
  exact ⟨n / 10, Nat.div_le_div_right hn, nI_div (by omega) (by decide) (by decide)⟩
theorem rg_sat {N m : Nat} {x : Int32} (h : rg N x) (hN : N < 2 ^ 31) (hm : m < 2 ^ 31) : rg m (sat (nI m) x) := by
  obtain ⟨n, hn, rfl⟩ := h
  unfold sat
  split
  · rename_i z; exact ⟨n, (nI_leI (by omega) hm).mp z, rfl⟩
  · exact ⟨m, Nat.le_refl _, rfl⟩
theorem rg_0 {N : Nat} : rg N 0 := ⟨0, Nat.zero_le _, nI_0.symm⟩
theorem rg_1 {N : Nat} (h : 1 ≤ N) : rg N 1 := ⟨1, h, rfl⟩
theorem rg_two {N : Nat} {x : Int32} (h : rg N x) : rg (2 * N) (2 * x) := by
  obtain ⟨n, hn, rfl⟩ := h
  refine ⟨2 * n, by omega, ?_⟩
  exact (Int32.ofNat_mul 2 n).symm
/-- the numbers' ranges: T towns, C crews -/
def RG (T C : Nat) (a : Nat → Int32) : Prop :=
  (∀ t, t < T → rg 999 (a (1 + t)) ∧ (a (25 + t) = 0 ∨ a (25 + t) = 1) ∧ (a (25 + t) = 1 → a (1 + t) = 0) ∧ rg 100 (a (7 + t))) ∧ ∀ c, c < C → rg 99 (a (37 + c)) ∧ rg 60 (a (40 + c)) ∧ ∀ t, t < T → rg 1998 (a (46 + 6 * c + t))
theorem RG_up {T C c t : Nat} {a a' : Nat → Int32} (h : RG T C a) (hT : T ≤ 6) (hC : C ≤ 3) (ht : t < T) (hc : c < C) (ao : ∀ k, k ≠ 1 + t → k ≠ 25 + t → k ≠ 31 + t → k ≠ 37 + c → k ≠ 46 + 6 * c + t → a' k = a k)
    (h1 : rg 999 (a' (1 + t))) (h2 : a' (25 + t) = 0 ∨ a' (25 + t) = 1) (h3 : a' (25 + t) = 1 → a' (1 + t) = 0) (h4 : rg 99 (a' (37 + c))) (h5 : rg 1998 (a' (46 + 6 * c + t))) : RG T C a' := by
  refine ⟨fun u hu => ?_, fun d hd => ⟨?_, ?_, fun u hu => ?_⟩⟩
  · by_cases e : u = t
    · subst e
      exact ⟨h1, h2, h3, by rw [ao (7 + u) (by omega) (by omega) (by omega) (by omega) (by omega)]; exact (h.1 u hu).2.2.2⟩
    · rw [ao (1 + u) (by omega) (by omega) (by omega) (by omega) (by omega), ao (25 + u) (by omega) (by omega) (by omega) (by omega) (by omega), ao (7 + u) (by omega) (by omega) (by omega) (by omega) (by omega)]
      exact h.1 u hu
  · by_cases e : d = c
    · subst e; exact h4
    · rw [ao (37 + d) (by omega) (by omega) (by omega) (by omega) (by omega)]; exact (h.2 d hd).1
  · rw [ao (40 + d) (by omega) (by omega) (by omega) (by omega) (by omega)]; exact (h.2 d hd).2.1
  · by_cases e : 46 + 6 * d + u = 46 + 6 * c + t
    · rw [e]; exact h5
    · rw [ao (46 + 6 * d + u) (by omega) (by omega) (by omega) (by omega) e]; exact (h.2 d hd).2.2 u hu
theorem askA_rg {T C c t : Nat} {kd a : Nat → Int32} (h : RG T C a) (ht : t < T) (hc : c < C) : rg 999 (askA kd a c t) := by
  have hb := rg_half ((h.2 c hc).2.2 t ht) (by decide)
  have hh := rg_mono (h.2 c hc).2.1 (show 60 ≤ 999 by decide)
  have hv : rg 999 (if a (46 + 6 * c + t) / 2 ≤ a (40 + c) then a (40 + c) else a (46 + 6 * c + t) / 2) := by
    split
    · exact hh
    · exact hb
  unfold askA
  split
  · exact rg_mono (rg_half hv (by decide)) (by decide)
  · exact hv
theorem up_o {a : Nat → Int32} {i k : Nat} {z : Int32} (h : k ≠ i) : upd a i z k = a k := by simp only [upd, if_neg h]
theorem up_e {a : Nat → Int32} {i : Nat} {z : Int32} : upd a i z i = z := by simp only [upd, if_true]
theorem payA_RG {T C c t : Nat} {kd a : Nat → Int32} {n : Int32} (h : RG T C a) (hT : T ≤ 6) (hC : C ≤ 3) (ht : t < T) (hc : c < C) (h0 : a (25 + t) = 0) (hn : rg 999 n) (hl : ¬ a (1 + t) < n) : RG T C (payA kd a c t n) := by
  unfold payA
  refine RG_up h hT hC ht hc (fun k k1 k2 k3 k4 k5 => by rw [up_o k5, up_o k3, up_o k1]) ?_ ?_ ?_ ?_ ?_
  · rw [up_o (by omega), up_o (by omega), up_e]
    have hs := (h.1 t ht).1
    split
    · obtain ⟨m, hm, rfl⟩ := hn
      obtain ⟨s, hs', e⟩ := hs
      rw [e] at hl ⊢
      have hms : m ≤ s := Nat.not_lt.mp fun z => hl (nI_lt z (by omega))
      have e2 : nI m / 2 = nI (m / 2) := nI_div (by omega) (by decide) (by decide)
      rw [e2, nI_sub (Nat.div_le_self m 2), nI_sub (by omega)]
      exact ⟨_, by omega, rfl⟩
    · exact rg_sub hs hn (by decide) (by decide) hl
  · rw [up_o (by omega), up_o (by omega), up_o (by omega)]; exact Or.inl h0
  · rw [up_o (by omega), up_o (by omega), up_o (by omega), h0]; intro z; exact absurd z (by decide)
  · rw [up_o (by omega), up_o (by omega), up_o (by omega)]; exact (h.2 c hc).1
  · rw [up_e]; exact rg_mono (rg_two hn) (by decide)
theorem hitA_RG {T C c t : Nat} {kd a : Nat → Int32} (h : RG T C a) (hT : T ≤ 6) (hC : C ≤ 3) (ht : t < T) (hc : c < C) (h0 : a (25 + t) = 0) : RG T C (hitA kd a c t).1 ∧ rg 999 (hitA kd a c t).2.1 := by
  by_cases z : a (37 + c) ≤ (if kd t = 1 then (6 : Int32) else 5) * a (13 + t)
  · have e : hitA kd a c t = (upd a (37 + c) (if a (37 + c) ≤ 3 then 1 else a (37 + c) - 2), 0, true) := if_pos z
    rw [e]
    refine ⟨RG_up h hT hC ht hc (fun k k1 k2 k3 k4 k5 => up_o k4) ?_ ?_ ?_ ?_ ?_, rg_0⟩
    · dsimp only; rw [up_o (by omega)]; exact (h.1 t ht).1
    · dsimp only; rw [up_o (by omega)]; exact Or.inl h0
    · dsimp only; rw [up_o (by omega), h0]; intro z; exact absurd z (by decide)
    · dsimp only
      rw [up_e]
      split
      · exact rg_1 (by decide)
      · rename_i z
        refine rg_sub (M := 2) (h.2 c hc).1 ⟨2, by decide, rfl⟩ (by decide) (by decide) (fun w => z ?_)
        obtain ⟨m, hm, e⟩ := (h.2 c hc).1
        rw [e] at w ⊢
        exact nI_le (b := 3) (by have := (nI_ltI (a := m) (b := 2) (by omega) (by decide)).mp w; omega) (by decide)
    · dsimp only; rw [up_o (by omega)]; exact (h.2 c hc).2.2 t ht
  · have e : hitA kd a c t = (upd (upd (upd a (1 + t) 0) (25 + t) 1) (46 + 6 * c + t) 0, a (1 + t), false) := if_neg z
    rw [e]
    refine ⟨RG_up h hT hC ht hc (fun k k1 k2 k3 k4 k5 => by dsimp only; rw [up_o k5, up_o k2, up_o k1]) ?_ ?_ ?_ ?_ ?_, (h.1 t ht).1⟩
    · dsimp only; rw [up_o (by omega), up_o (by omega), up_e]; exact rg_0
    · dsimp only; rw [up_o (by omega), up_e]; exact Or.inr rfl
    · dsimp only; intro _; rw [up_o (by omega), up_o (by omega), up_e]
    · dsimp only; rw [up_o (by omega), up_o (by omega), up_o (by omega)]; exact (h.2 c hc).1
    · dsimp only; rw [up_e]; exact rg_0
theorem stpA_RG {T C c t : Nat} {kd a : Nat → Int32} (h : RG T C a) (hT : T ≤ 6) (hC : C ≤ 3) (ht : t < T) (hc : c < C) (h0 : a (25 + t) = 0) : RG T C (stpA kd a c t).1 ∧ rg 999 (stpA kd a c t).2.1 := by
  have hA := askA_rg (kd := kd) h ht hc
  unfold stpA
  split
  · rename_i z; exact ⟨payA_RG h hT hC ht hc h0 hA z.2, hA⟩
  · split
    · rename_i z; exact ⟨payA_RG h hT hC ht hc h0 (rg_mono (rg_third hA (by decide)) (by decide)) z.2, rg_mono (rg_third hA (by decide)) (by decide)⟩
    · exact hitA_RG h hT hC ht hc h0
theorem cmA_RG {T C c : Nat} {kd : Nat → Int32} (hT : T ≤ 6) (hC : C ≤ 3) (hc : c < C) : ∀ (n t : Nat) (a : Nat → Int32) (x : Int32), RG T C a → t ≤ 6 → rg (999 * t) x → RG T C (cmA kd T c n a x t).1 ∧ rg 5994 (cmA kd T c n a x t).2 := by
  intro n
  induction n with
  | zero => intro t a x h ht hx; exact ⟨h, rg_mono hx (by omega)⟩
  | succ n ih =>
    intro t a x h ht hx
    rw [cmA]
    by_cases c1 : T ≤ t
    · rw [if_pos c1]; exact ⟨h, rg_mono hx (by omega)⟩
    · rw [if_neg c1]
      by_cases c2 : a (25 + t) = 1
      · rw [if_pos c2]; exact ih (t + 1) a x h (by omega) (rg_mono hx (by omega))
      · rw [if_neg c2]
        have h0 : a (25 + t) = 0 := (h.1 t (by omega)).2.1.resolve_right c2
        have hs := stpA_RG (kd := kd) h hT hC (show t < T by omega) hc h0
        have hx' : rg (999 * (t + 1)) (x + (stpA kd a c t).2.1) := rg_mono (rg_add hx hs.2) (by omega)
        by_cases c3 : (stpA kd a c t).2.2 = true
        · rw [if_pos c3]; exact ih (t + 1) _ _ hs.1 (by omega) hx'
        · rw [if_neg c3]; exact ⟨hs.1, rg_mono hx' (by omega)⟩
theorem comA_RG {T C c : Nat} {kd a : Nat → Int32} (hT : T ≤ 6) (hC : C ≤ 3) (hc : c < C) (h : RG T C a) : RG T C (comA kd T c a) := by
  obtain ⟨h1, h2⟩ := cmA_RG (kd := kd) hT hC hc 7 0 a 0 h (by omega) rg_0
  unfold comA
  generalize cmA kd T c 7 a 0 0 = s at h1 h2
  refine ⟨fun t ht => ?_, fun d hd => ⟨?_, ?_, fun t ht => ?_⟩⟩
  · rw [up_o (by omega), up_o (by omega), up_o (by omega)]; exact h1.1 t ht
  · by_cases e : d = c
    · subst e
      rw [up_e]
      exact rg_sat (m := 99) (rg_add (h1.2 d hd).1 (rg_tenth h2 (by decide))) (by decide) (by decide)
    · rw [up_o (by omega)]; exact (h1.2 d hd).1
  · rw [up_o (by omega)]; exact (h1.2 d hd).2.1
  · rw [up_o (by omega)]; exact (h1.2 d hd).2.2 t ht
theorem crA_RG {T C : Nat} {kd : Nat → Int32} (hT : T ≤ 6) (hC : C ≤ 3) : ∀ (n c : Nat) (a : Nat → Int32), RG T C a → RG T C (crA kd T C n a c) := by
  intro n
  induction n with
  | zero => intro c a h; exact h
  | succ n ih =>
    intro c a h
    rw [crA]
    by_cases c1 : C ≤ c
    · rw [if_pos c1]; exact h
    · rw [if_neg c1]
      by_cases c2 : a (43 + c) = 0
      · rw [if_pos c2]; exact ih _ _ (comA_RG hT hC (by omega) h)
      · rw [if_neg c2]; exact ih _ _ h
theorem earn_RG {T C : Nat} {a : Nat → Int32} {cost : Int32} (hT : T ≤ 6) (hC : C ≤ 3) (hk : rg 30 cost) (h : RG T C a) : RG T C (Fb T cost 0 (earnA T a)) := by
  have mo : ∀ k, k = 0 ∨ (7 ≤ k ∧ k < 13) ∨ 19 ≤ k → Fb T cost 0 (earnA T a) k = a k := fun k hk => by rw [Fb_o hT hk, earnA_o hT (by omega)]
  refine ⟨fun t ht => ?_, fun c hc => ⟨?_, ?_, fun t ht => ?_⟩⟩
  · obtain ⟨q1, q2, q3, q4⟩ := h.1 t ht
    rw [mo (25 + t) (by omega), mo (7 + t) (by omega), Fb_1 ht]
    have b1 : earnA T a (25 + t) = a (25 + t) := earnA_o hT (by omega)
    have hs : rg 999 (earnA T a (1 + t)) := by
      rw [earnA_1 ht]
      split
      · exact rg_sat (m := 999) (rg_add q1 q4) (by decide) (by decide)
      · exact q1
    refine ⟨?_, q2, fun z => ?_, q4⟩
    · split
      · rename_i w
        exact rg_sub hs hk (by decide) (by decide) w.2.2.1
      · exact hs
    · have n0 : ¬ a (25 + t) = 0 := fun w => by rw [w] at z; exact absurd z (by decide)
      rw [if_neg (fun w => n0 (by have := w.1; rw [b1] at this; exact this)), earnA_1 ht, if_neg n0]
      exact q3 z
  · rw [mo (37 + c) (by omega)]; exact (h.2 c hc).1
  · rw [mo (40 + c) (by omega)]; exact (h.2 c hc).2.1
  · rw [mo (46 + 6 * c + t) (by omega)]; exact (h.2 c hc).2.2 t ht
theorem sprA_RG {T C : Nat} {kd a : Nat → Int32} {cost : Int32} (hT : T ≤ 6) (hC : C ≤ 3) (hk : rg 30 cost) (h : RG T C a) : RG T C (sprA kd T C cost a) := by
  have g := crA_RG (kd := kd) hT hC 4 0 _ (earn_RG hT hC hk h)
  unfold sprA
  generalize crA kd T C 4 (Fb T cost 0 (earnA T a)) 0 = b at g
  refine ⟨fun t ht => ?_, fun c hc => ⟨?_, ?_, fun t ht => ?_⟩⟩
  · rw [up_o (by omega), up_o (by omega), up_o (by omega)]; exact g.1 t ht
  · rw [up_o (by omega)]; exact (g.2 c hc).1
  · rw [up_o (by omega)]; exact (g.2 c hc).2.1
  · rw [up_o (by omega)]; exact (g.2 c hc).2.2 t ht
