/-! the invariant between the class's numbers and the reference's -/
theorem stp_o {kd a : Nat → Int32} {c t k : Nat} (h1 : k ≠ 1 + t) (h2 : k ≠ 25 + t) (h3 : k ≠ 31 + t) (h4 : k ≠ 37 + c) (h5 : k ≠ 46 + 6 * c + t) : (stpA kd a c t).1 k = a k := by
  have hp : ∀ z, payA kd a c t z k = a k := fun z => by unfold payA; rw [up_o h5, up_o h3, up_o h1]
  by_cases z1 : a (19 + t) = 0 ∧ ¬ a (1 + t) < askA kd a c t
  · have e : stpA kd a c t = (payA kd a c t (askA kd a c t), askA kd a c t, false) := if_pos z1
    rw [e]; exact hp _
  · by_cases z2 : a (19 + t) = 2 ∧ ¬ a (1 + t) < askA kd a c t / 3
    · have e : stpA kd a c t = (payA kd a c t (askA kd a c t / 3), askA kd a c t / 3, true) := (if_neg z1).trans (if_pos z2)
      rw [e]; exact hp _
    · have e : stpA kd a c t = hitA kd a c t := (if_neg z1).trans (if_neg z2)
      rw [e]
      by_cases z : a (37 + c) ≤ (if kd t = 1 then (6 : Int32) else 5) * a (13 + t)
      · have e : hitA kd a c t = (upd a (37 + c) (if a (37 + c) ≤ 3 then 1 else a (37 + c) - 2), 0, true) := if_pos z
        rw [e]; exact up_o h4
      · have e : hitA kd a c t = (upd (upd (upd a (1 + t) 0) (25 + t) 1) (46 + 6 * c + t) 0, a (1 + t), false) := if_neg z
        rw [e]; dsimp only; rw [up_o h5, up_o h2, up_o h1]
theorem cm_o {T c k : Nat} {kd : Nat → Int32} (hT : T ≤ 6) (h1 : (1 + T ≤ k ∧ k < 7) ∨ (13 ≤ k ∧ k < 19)) : ∀ (n t : Nat) (a : Nat → Int32) (x : Int32), (cmA kd T c n a x t).1 k = a k := by
  intro n
  induction n with
  | zero => intro t a x; rfl
  | succ n ih =>
    intro t a x
    rw [cmA]
    by_cases c1 : T ≤ t
    · rw [if_pos c1]
    · rw [if_neg c1]
      by_cases c2 : a (25 + t) = 1
      · rw [if_pos c2]; exact ih _ _ _
      · rw [if_neg c2]
        by_cases c3 : (stpA kd a c t).2.2 = true
        · rw [if_pos c3, ih]; exact stp_o (by omega) (by omega) (by omega) (by omega) (by omega)
        · rw [if_neg c3]; exact stp_o (by omega) (by omega) (by omega) (by omega) (by omega)
theorem cr_o {T C k : Nat} {kd : Nat → Int32} (hT : T ≤ 6) (h1 : (1 + T ≤ k ∧ k < 7) ∨ (13 ≤ k ∧ k < 19)) : ∀ (n c : Nat) (a : Nat → Int32), crA kd T C n a c k = a k := by
  intro n
  induction n with
  | zero => intro c a; rfl
  | succ n ih =>
    intro c a
    rw [crA]
    by_cases c1 : C ≤ c
    · rw [if_pos c1]
    · rw [if_neg c1]
      by_cases c2 : a (43 + c) = 0
      · rw [if_pos c2, ih]; unfold comA; rw [up_o (by omega)]; exact cm_o hT h1 _ _ _ _
      · rw [if_neg c2]; exact ih _ _
theorem spr_o {T C k : Nat} {kd a : Nat → Int32} {cost : Int32} (hT : T ≤ 6) (h1 : 1 + T ≤ k) (h2 : k < 7) : sprA kd T C cost a k = a k := by
  unfold sprA
  rw [up_o (by omega), cr_o hT (Or.inl ⟨h1, h2⟩)]
  unfold Fb
  rw [if_neg (by omega), if_neg (by omega)]
  unfold earnA
  rw [if_neg (by omega)]
theorem spr_w {T C t : Nat} {kd a : Nat → Int32} {cost : Int32} (hT : T ≤ 6) (ht : t < 6) (h : rg 20 (a (13 + t))) : rg 20 (sprA kd T C cost a (13 + t)) := by
  unfold sprA
  rw [up_o (by omega), cr_o hT (Or.inr ⟨by omega, by omega⟩)]
  have e : earnA T a (13 + t) = a (13 + t) := earnA_o hT (by omega)
  by_cases c1 : t < T
  · rw [Fb_13 hT c1]
    by_cases c2 : Bd (earnA T a) cost t
    · rw [if_pos c2, e]
      have c3 := c2.2.2.2
      rw [e] at c3
      obtain ⟨n, hn, q⟩ := h
      rw [q] at c3 ⊢
      have : ¬ n = 20 := fun w => c3 (by rw [w]; decide)
      exact ⟨n + 1, by omega, nI_1 n⟩
    · rw [if_neg c2, e]; exact h
  · unfold Fb
    rw [if_neg (by omega), if_neg (by omega), e]; exact h
def ZR (a : Nat → Int32) : Prop := ∀ t, t < 6 → rg 999 (a (1 + t)) ∧ rg 20 (a (13 + t))
theorem it_ZR {T C : Nat} {kd : Nat → Int32} {cost : Int32} (hT : T ≤ 6) (hC : C ≤ 3) (hk : rg 30 cost) : ∀ (n : Nat) (a : Nat → Int32), RG T C a → ZR a → ZR (itA kd T C cost n a) := by
  intro n
  induction n with
  | zero => intro a _ h; exact h
  | succ n ih =>
    intro a hg h
    have g := sprA_RG (kd := kd) hT hC hk hg
    refine ih _ g (fun t ht => ⟨?_, spr_w hT ht (h t ht).2⟩)
    by_cases c1 : t < T
    · exact (g.1 t c1).1
    · rw [spr_o hT (by omega) (by omega)]; exact (h t ht).1
def th1 (C : Nat) : Nat → Int32 := fun c => if c < C then 1 else 0
def z0 : Nat → Int32 := fun _ => 0
/-- a river of the class and one of the reference, alike in all -/
def RS (T C : Nat) (kd : Nat → Int32) (cost : Int32) (r : Nat → Nat → Int32) (a : Nat → Int32) : Prop :=
  (∃ go, RV T kd cost (th1 C) go (fun c => a (43 + c)) (fun c => c < C) z0 r a ∧ ∀ c, c < C → go c = a (43 + c)) ∧ (∀ c, c < C → a (43 + c) = 0 ∨ a (43 + c) = 1) ∧ RG T C a ∧ ZR a
theorem RV_to {T : Nat} {kd : Nat → Int32} {cost : Int32} {th go ga : Nat → Int32} {K : Nat → Prop} {sp : Nat → Int32} {r r' : Nat → Nat → Int32} {a : Nat → Int32} (hT : T ≤ 6) (h : RV T kd cost th go ga K sp r a) (e : ∀ k, k < 15 → r' k = r k) : RV T kd cost th go ga K sp r' a := by
  obtain ⟨h1, h2, h3, h4, h5, h6, h7⟩ := h
  refine ⟨fun t ht => ?_, fun t ht => ?_, fun c hc => ?_, fun c hc hK => ?_, fun c hc => ?_, ?_, ?_⟩
  · rw [e (3 + t) (by omega)]; exact h1 t ht
  · unfold RT; rw [e (3 + t) (by omega)]; exact h2 t ht
  · rw [e (9 + 2 * c) (by omega)]; exact h3 c hc
  · unfold RC; rw [e (9 + 2 * c) (by omega), e (10 + 2 * c) (by omega)]; exact h4 c hc hK
  · rw [e (9 + 2 * c) (by omega)]; exact h5 c hc
  · rw [e 0 (by omega)]; exact h6
  · rw [e 0 (by omega)]; exact h7
theorem RS_to {T C : Nat} {kd : Nat → Int32} {cost : Int32} {r r' : Nat → Nat → Int32} {a : Nat → Int32} (hT : T ≤ 6) (h : RS T C kd cost r a) (e : ∀ k, k < 15 → r' k = r k) : RS T C kd cost r' a := by
  obtain ⟨⟨go, h1, h2⟩, h3⟩ := h
  exact ⟨⟨go, RV_to hT h1 e, h2⟩, h3⟩
theorem RS_a {T C : Nat} {kd : Nat → Int32} {cost : Int32} {r : Nat → Nat → Int32} {a a' : Nat → Int32} (hT : T ≤ 6) (hC : C ≤ 3) (h : RS T C kd cost r a) (e : ∀ k, k < 64 → a' k = a k) : RS T C kd cost r a' := by
  obtain ⟨⟨go, ⟨h1, h2, h3, h4, h5, h6, h7⟩, hg⟩, hb, hR, hZ⟩ := h
  refine ⟨⟨go, ⟨h1, fun t ht => ?_, fun c hc => ?_, fun c hc hK => ?_, h5, h6, ?_⟩, fun c hc => ?_⟩, fun c hc => ?_, ⟨fun t ht => ?_, fun c hc => ⟨?_, ?_, fun t ht => ?_⟩⟩, fun t ht => ?_⟩
  · unfold RT
    rw [e (25 + t) (by omega), e (1 + t) (by omega), e (7 + t) (by omega), e (13 + t) (by omega), e (19 + t) (by omega), e (31 + t) (by omega)]
    exact h2 t ht
  · exact ⟨(h3 c hc).1, (h3 c hc).2.1, rfl⟩
  · unfold RC
    rw [e (37 + c) (by omega), e (40 + c) (by omega)]
    refine ⟨(h4 c hc hK).1, (h4 c hc hK).2.1, fun t ht => ?_⟩
    rw [e (46 + 6 * c + t) (by omega)]; exact (h4 c hc hK).2.2 t ht
  · rw [e 0 (by omega)]; exact h7
  · rw [e (43 + c) (by omega)]; exact hg c hc
  · rw [e (43 + c) (by omega)]; exact hb c hc
  · rw [e (25 + t) (by omega), e (1 + t) (by omega), e (7 + t) (by omega)]; exact hR.1 t ht
  · rw [e (37 + c) (by omega)]; exact (hR.2 c hc).1
  · rw [e (40 + c) (by omega)]; exact (hR.2 c hc).2.1
  · rw [e (46 + 6 * c + t) (by omega)]; exact (hR.2 c hc).2.2 t ht
  · rw [e (1 + t) (by omega), e (13 + t) (by omega)]; exact hZ t ht
theorem RS_copy {T C : Nat} {kd : Nat → Int32} {cost : Int32} {r f : Nat → Nat → Int32} {a : Nat → Int32} (hT : T ≤ 6) (h : RS T C kd cost f a) (hs : ∀ c, c < 3 → r (9 + 2 * c) 4 = 0) : RS T C kd cost (d_X3_copy r f) a := by
  obtain ⟨⟨go, h1, h2⟩, h3⟩ := h
  exact ⟨⟨go, copy_RV hT h1 hs, h2⟩, h3⟩
theorem RS_sp {T C : Nat} {kd : Nat → Int32} {cost : Int32} {r : Nat → Nat → Int32} {a : Nat → Int32} (h : RS T C kd cost r a) : ∀ c, c < 3 → r (9 + 2 * c) 4 = 0 := by
  obtain ⟨⟨go, h1, h2⟩, h3⟩ := h
  exact h1.2.2.2.2.1
theorem RS_go {T C : Nat} {kd : Nat → Int32} {cost : Int32} {r : Nat → Nat → Int32} {a : Nat → Int32} (hT : T ≤ 6) (hC : C ≤ 3) (hk : rg 30 cost) {N : Nat} (hN : N < 2 ^ 31) (h : RS T C kd cost r a) : RS T C kd cost (d_X3_goBy r (nI N)) (itA kd T C cost N a) := by
  obtain ⟨⟨go, h1, hg⟩, hb, hR, hZ⟩ := h
  have hsa : ∀ c, c < 3 → ((¬ th1 C c = 0 ∧ go c = 0) ↔ (c < C ∧ a (43 + c) = 0)) := by
    intro c hc
    unfold th1
    by_cases z : c < C
    · rw [if_pos z, hg c z]
      exact ⟨fun w => ⟨z, w.2⟩, fun w => ⟨by decide, w.2⟩⟩
    · rw [if_neg z]
      exact ⟨fun w => absurd rfl w.1, fun w => absurd w.1 z⟩
  have g := goBy_sim hT hC hsa (fun c hc _ => hc) (fun c hc => rfl) hk hN hR h1
  have g3 : ∀ c, c < 3 → itA kd T C cost N a (43 + c) = a (43 + c) := fun c hc => (g.2.2.1 c hc).2.2
  refine ⟨⟨go, ⟨g.1, g.2.1, fun c hc => ⟨(g.2.2.1 c hc).1, (g.2.2.1 c hc).2.1, rfl⟩, g.2.2.2.1, g.2.2.2.2⟩, fun c hc => ?_⟩, fun c hc => ?_, itA_RG hT hC hk N a hR, it_ZR hT hC hk N a hR hZ⟩
  · rw [g3 c (by omega)]; exact hg c hc
  · rw [g3 c (by omega)]; exact hb c hc
/-- letters -/
def ILet (x : Int32) (u : Nat → Int32) (y : Int32) (v : Nat → Int32) : Prop := ∃ n, n ≤ 200 ∧ x = nI n ∧ y = nI n ∧ ∀ j, j < n → u j = v j ∧ rg 126 (v j)
/-- a shelf of N rivers and the reference's slices -/
def IShelf (N T C : Nat) (kd : Nat → Int32) (cost : Int32) (s : Nat → Nat → Int32) (y : Int32) (bk : Nat → Int32) : Prop :=
  ∃ n, n ≤ N ∧ s 0 1 = nI n ∧ y = nI n ∧ (∀ j, j < N → ∃ w, w < N ∧ s 1 j = nI w) ∧ (∀ i j, i < N → j < N → s 1 i = s 1 j → i = j) ∧ (∀ w, w < N → ∀ c, c < 3 → s (2 + 15 * w + (9 + 2 * c)) 4 = 0) ∧ ∀ i w, i < n → w < N → s 1 i = nI w → RS T C kd cost (shf s (2 + 15 * w)) (fun k => bk (64 * i + k))
/-- what was found -/
def IFind (T : Nat) (f : Nat → Nat → Int32) (y : Int32) (g : Nat → Int32) : Prop :=
  ∃ n, n ≤ 6 ∧ f 0 3 = nI n ∧ y = nI n ∧ (∀ i, i < 6 → rg 20 (f 2 i) ∧ rg 5 (g (3 * i))) ∧ ∀ i, i < n → (∃ t, t < T ∧ f 1 i = nI t ∧ g (3 * i) = nI t) ∧ f 2 i = g (3 * i + 1) ∧ f 3 i = g (3 * i + 2) ∧ ¬ f 2 i = 0
def Inv (R M : Nat → Nat → Int32) : Prop :=
  ∃ T C : Nat, T ≤ 6 ∧ C ≤ 3 ∧ M 0 10 = nI T ∧ M 0 11 = nI C ∧ rg 30 (M 0 12) ∧ ILet (R 0 1) (R 1) (M 0 0) (M 1) ∧ RS T C (M 5) (M 0 12) (shf R 22) (M 6) ∧ (RS T C (M 5) (M 0 12) (shf R 4) (M 7) ∧ (∀ c, c < C → M 7 (43 + c) = 0) ∧ ∀ t, t < T → M 7 (25 + t) = 0) ∧ (∀ c, c < 3 → R (40 + (9 + 2 * c)) 4 = 0) ∧ IShelf 8 T C (M 5) (M 0 12) (shf R 55) (M 0 18) (M 9) ∧ IShelf 2 T C (M 5) (M 0 12) (shf R 177) (M 0 20) (M 10) ∧ IFind T (shf R 209) (M 0 21) (M 11)
