/-! a river that is read: a town more, a crew more, a way, a cost -/
def ZX (a : Nat → Int32) : Prop := a 0 = 0 ∧ (∀ k, 25 ≤ k → k < 37 → a k = 0) ∧ ∀ k, 43 ≤ k → k < 64 → a k = 0
def ZB (C : Nat) (r : Nat → Nat → Int32) : Prop := ∀ c, c < C → ∀ t, t < 6 → r (10 + 2 * c) t = 0
theorem RS_addT {T C : Nat} {kd : Nat → Int32} {cost k s i w : Int32} {r r' : Nat → Nat → Int32} {a : Nat → Int32} (hT : T < 6) (hC : C ≤ 3) (h : RS T C kd cost r a) (hz : ZX a) (hb : ZB C r) (hs : rg 999 s) (hi : rg 100 i) (hw : rg 20 w) (ho : ∀ q, q ≠ 3 + T → r' q = r q) (h0 : r' (3 + T) 0 = 1) (h1 : r' (3 + T) 1 = 0) (h2 : r' (3 + T) 2 = k) (h3 : r' (3 + T) 3 = s) (h4 : r' (3 + T) 4 = i) (h5 : r' (3 + T) 5 = w) (h6 : r' (3 + T) 6 = 0) (h7 : r' (3 + T) 7 = 0) : RS (T + 1) C (upd kd T k) cost r' (upd (upd (upd (upd a (1 + T) s) (7 + T) i) (13 + T) w) (19 + T) 0) := by
  generalize ea : upd (upd (upd (upd a (1 + T) s) (7 + T) i) (13 + T) w) (19 + T) 0 = a'
  have ao : ∀ q, q ≠ 1 + T → q ≠ 7 + T → q ≠ 13 + T → q ≠ 19 + T → a' q = a q := fun q q1 q2 q3 q4 => by rw [← ea, up_o q4, up_o q3, up_o q2, up_o q1]
  have x1 : a' (1 + T) = s := by rw [← ea, up_o (by omega), up_o (by omega), up_o (by omega), up_e]
  have x2 : a' (7 + T) = i := by rw [← ea, up_o (by omega), up_o (by omega), up_e]
  have x3 : a' (13 + T) = w := by rw [← ea, up_o (by omega), up_e]
  have x4 : a' (19 + T) = 0 := by rw [← ea, up_e]
  have x5 : a' (25 + T) = 0 := by rw [ao (25 + T) (by omega) (by omega) (by omega) (by omega)]; exact hz.2.1 _ (by omega) (by omega)
  have x6 : a' (31 + T) = 0 := by rw [ao (31 + T) (by omega) (by omega) (by omega) (by omega)]; exact hz.2.1 _ (by omega) (by omega)
  have hR := h.2.2.1
  have hZ := h.2.2.2
  have h01 := h.2.1
  obtain ⟨⟨go, ⟨w1, w2, w3, w4, w5, w6, w7⟩, w8⟩, -⟩ := h
  refine ⟨⟨go, ⟨fun t ht => ?_, fun t ht => ?_, fun c hc => ?_, fun c hc hK => ?_, fun c hc => ?_, ?_, ?_⟩, fun c hc => ?_⟩, fun c hc => ?_, ⟨fun t ht => ?_, fun c hc => ⟨?_, ?_, fun t ht => ?_⟩⟩, fun t ht => ⟨?_, ?_⟩⟩
  · by_cases e : t = T
    · subst e; rw [h0]; exact ⟨fun z => absurd z (by decide), fun z => absurd (by omega) z⟩
    · rw [ho _ (by omega), w1 t ht]; omega
  · unfold RT
    by_cases e : t = T
    · subst e
      rw [h1, h2, h3, h4, h5, h6, h7, x1, x2, x3, x4, x5, x6, up_e]
      exact ⟨rfl, rfl, rfl, rfl, rfl, rfl, rfl⟩
    · rw [ho _ (by omega), ao (25 + t) (by omega) (by omega) (by omega) (by omega), ao (1 + t) (by omega) (by omega) (by omega) (by omega), ao (7 + t) (by omega) (by omega) (by omega) (by omega), ao (13 + t) (by omega) (by omega) (by omega) (by omega), ao (19 + t) (by omega) (by omega) (by omega) (by omega), ao (31 + t) (by omega) (by omega) (by omega) (by omega), up_o e]
      exact w2 t (by omega)
  · rw [ho _ (by omega)]
    exact ⟨(w3 c hc).1, (w3 c hc).2.1, rfl⟩
  · unfold RC
    rw [ho (9 + 2 * c) (by omega), ho (10 + 2 * c) (by omega), ao (37 + c) (by omega) (by omega) (by omega) (by omega), ao (40 + c) (by omega) (by omega) (by omega) (by omega)]
    refine ⟨(w4 c hc hK).1, (w4 c hc hK).2.1, fun t ht => ?_⟩
    rw [ao (46 + 6 * c + t) (by omega) (by omega) (by omega) (by omega)]
    by_cases e : t = T
    · subst e; rw [hb c hK t hT, hz.2.2 _ (by omega) (by omega)]
    · exact (w4 c hc hK).2.2 t (by omega)
  · rw [ho _ (by omega)]; exact w5 c hc
  · rw [ho 0 (by omega)]; exact w6
  · rw [ho 0 (by omega), ao 0 (by omega) (by omega) (by omega) (by omega)]; exact w7
  · rw [ao (43 + c) (by omega) (by omega) (by omega) (by omega)]; exact w8 c hc
  · rw [ao (43 + c) (by omega) (by omega) (by omega) (by omega)]; exact h01 c hc
  · by_cases e : t = T
    · subst e; rw [x1, x5, x2]; exact ⟨hs, Or.inl rfl, fun z => absurd z (by decide), hi⟩
    · rw [ao (25 + t) (by omega) (by omega) (by omega) (by omega), ao (1 + t) (by omega) (by omega) (by omega) (by omega), ao (7 + t) (by omega) (by omega) (by omega) (by omega)]
      exact hR.1 t (by omega)
  · rw [ao (37 + c) (by omega) (by omega) (by omega) (by omega)]; exact (hR.2 c hc).1
  · rw [ao (40 + c) (by omega) (by omega) (by omega) (by omega)]; exact (hR.2 c hc).2.1
  · rw [ao (46 + 6 * c + t) (by omega) (by omega) (by omega) (by omega), hz.2.2 _ (by omega) (by omega)]; exact rg_0
  · by_cases e : t = T
    · subst e; rw [x1]; exact hs
    · rw [ao (1 + t) (by omega) (by omega) (by omega) (by omega)]; exact (hZ t ht).1
  · by_cases e : t = T
    · subst e; rw [x3]; exact hw
    · rw [ao (13 + t) (by omega) (by omega) (by omega) (by omega)]; exact (hZ t ht).2
theorem RS_addC {T C : Nat} {kd : Nat → Int32} {cost m g : Int32} {r r' : Nat → Nat → Int32} {a : Nat → Int32} (hT : T ≤ 6) (hC : C < 3) (h : RS T C kd cost r a) (hz : ZX a) (hm : rg 99 m) (hg : rg 60 g) (ho : ∀ q, q ≠ 9 + 2 * C → q ≠ 10 + 2 * C → r' q = r q) (h0 : r' (9 + 2 * C) 0 = 1) (h1 : r' (9 + 2 * C) 1 = 0) (h2 : r' (9 + 2 * C) 2 = m) (h3 : r' (9 + 2 * C) 3 = g) (h4 : r' (9 + 2 * C) 4 = r (9 + 2 * C) 4) (hb : ∀ t, t < 6 → r' (10 + 2 * C) t = 0) : RS T (C + 1) kd cost r' (upd (upd a (37 + C) m) (40 + C) g) := by
  generalize ea : upd (upd a (37 + C) m) (40 + C) g = a'
  have ao : ∀ q, q ≠ 37 + C → q ≠ 40 + C → a' q = a q := fun q q1 q2 => by rw [← ea, up_o q2, up_o q1]
  have x1 : a' (37 + C) = m := by rw [← ea, up_o (by omega), up_e]
  have x2 : a' (40 + C) = g := by rw [← ea, up_e]
  have z43 : ∀ c, c < 3 → a' (43 + c) = 0 := fun c hc => by rw [ao _ (by omega) (by omega)]; exact hz.2.2 _ (by omega) (by omega)
  have hR := h.2.2.1
  have hZ := h.2.2.2
  obtain ⟨⟨go, ⟨w1, w2, w3, w4, w5, w6, w7⟩, w8⟩, -⟩ := h
  refine ⟨⟨fun c => r' (9 + 2 * c) 1, ⟨fun t ht => ?_, fun t ht => ?_, fun c hc => ⟨?_, rfl, rfl⟩, fun c hc hK => ?_, fun c hc => ?_, ?_, ?_⟩, fun c hc => ?_⟩, fun c hc => Or.inl (z43 c (by omega)), ⟨fun t ht => ?_, fun c hc => ⟨?_, ?_, fun t ht => ?_⟩⟩, fun t ht => ?_⟩
  · rw [ho _ (by omega) (by omega)]; exact w1 t ht
  · unfold RT
    rw [ho _ (by omega) (by omega), ao (25 + t) (by omega) (by omega), ao (1 + t) (by omega) (by omega), ao (7 + t) (by omega) (by omega), ao (13 + t) (by omega) (by omega), ao (19 + t) (by omega) (by omega), ao (31 + t) (by omega) (by omega)]
    exact w2 t ht
  · by_cases e : c = C
    · subst e; rw [h0]; unfold th1; rw [if_pos (by omega)]
    · rw [ho _ (by omega) (by omega), (w3 c hc).1]
      unfold th1
      by_cases e2 : c < C
      · rw [if_pos e2, if_pos (by omega)]
      · rw [if_neg e2, if_neg (by omega)]
  · unfold RC
    by_cases e : c = C
    · subst e
      rw [h2, h3, x1, x2]
      refine ⟨rfl, rfl, fun t ht => ?_⟩
      rw [hb t (by omega), ao _ (by omega) (by omega), hz.2.2 _ (by omega) (by omega)]
    · rw [ho (9 + 2 * c) (by omega) (by omega), ho (10 + 2 * c) (by omega) (by omega), ao (37 + c) (by omega) (by omega), ao (40 + c) (by omega) (by omega)]
      refine ⟨(w4 c hc (by omega)).1, (w4 c hc (by omega)).2.1, fun t ht => ?_⟩
      rw [ao (46 + 6 * c + t) (by omega) (by omega)]
      exact (w4 c hc (by omega)).2.2 t ht
  · by_cases e : c = C
    · subst e; rw [h4]; exact w5 c hc
    · rw [ho _ (by omega) (by omega)]; exact w5 c hc
  · rw [ho 0 (by omega) (by omega)]; exact w6
  · rw [ho 0 (by omega) (by omega), ao 0 (by omega) (by omega)]; exact w7
  · dsimp only
    rw [z43 c (by omega)]
    by_cases e : c = C
    · subst e; exact h1
    · rw [ho _ (by omega) (by omega), (w3 c (by omega)).2.1, w8 c (by omega)]
      exact hz.2.2 _ (by omega) (by omega)
  · rw [ao (25 + t) (by omega) (by omega), ao (1 + t) (by omega) (by omega), ao (7 + t) (by omega) (by omega)]
    exact hR.1 t ht
  · by_cases e : c = C
    · subst e; rw [x1]; exact hm
    · rw [ao (37 + c) (by omega) (by omega)]; exact (hR.2 c (by omega)).1
  · by_cases e : c = C
    · subst e; rw [x2]; exact hg
    · rw [ao (40 + c) (by omega) (by omega)]; exact (hR.2 c (by omega)).2.1
  · rw [ao (46 + 6 * c + t) (by omega) (by omega), hz.2.2 _ (by omega) (by omega)]; exact rg_0
  · rw [ao (1 + t) (by omega) (by omega), ao (13 + t) (by omega) (by omega)]; exact hZ t ht
theorem RS_cost {T C : Nat} {kd : Nat → Int32} {cost z : Int32} {r : Nat → Nat → Int32} {a : Nat → Int32} (h : RS T C kd cost r a) : RS T C kd z (pt r 0 2 z) a := by
  obtain ⟨⟨go, ⟨w1, w2, w3, w4, w5, w6, w7⟩, w8⟩, w9⟩ := h
  refine ⟨⟨go, ⟨fun t ht => ?_, fun t ht => ?_, fun c hc => ?_, fun c hc hK => ?_, fun c hc => ?_, pt_i, ?_⟩, w8⟩, w9⟩
  · rw [pt_k (by omega)]; exact w1 t ht
  · unfold RT; rw [pt_k (by omega)]; exact w2 t ht
  · rw [pt_k (by omega)]; exact w3 c hc
  · unfold RC; rw [pt_k (by omega), pt_k (by omega)]; exact w4 c hc hK
  · rw [pt_k (by omega)]; exact w5 c hc
  · rw [pt_o (by omega)]; exact w7
theorem believe_loop {u : Int32} {o : Nat} (hu : u.toNatClampNeg = o) : ∀ n i (r : Nat → Nat → Int32), i ≤ 6 → 6 < i + n → (∀ q, q ≠ 10 + 2 * o → d_X3_man_L73 u n r i q = r q) ∧ (∀ t, t < i → d_X3_man_L73 u n r i (10 + 2 * o) t = r (10 + 2 * o) t) ∧ ∀ t, i ≤ t → t < 6 → d_X3_man_L73 u n r i (10 + 2 * o) t = 0 := by
  intro n
  induction n with
  | zero => intro i r h1 h2; exact absurd h2 (by omega)
  | succ n ih =>
    intro i r h1 h2
    by_cases g : 6 ≤ i
    · have e : d_X3_man_L73 u (n + 1) r i = r := by rw [d_X3_man_L73]; exact if_pos (nI_le (a := 6) g (by omega))
      rw [e]; exact ⟨fun _ _ => rfl, fun _ _ => rfl, fun t h3 h4 => absurd h4 (by omega)⟩
    · have eb : d_X0_believe (shf r (9 + 2 * o)) (nI i) 0 = pt (shf r (9 + 2 * o)) 1 i 0 := by
        rw [d_X0_believe, nI_clamp (by omega)]; exact (if_neg (nI_pos (by omega))).trans (if_neg (nI_ge (by omega) (by omega)))
      have es : spl r (9 + 2 * o) 2 (pt (shf r (9 + 2 * o)) 1 i 0) = pt r (10 + 2 * o) i 0 := by
        funext q
        by_cases w : q = 10 + 2 * o
        · subst w
          rw [spl_in (by omega), show 10 + 2 * o - (9 + 2 * o) = 1 by omega, pt_eq, pt_eq]
          show upd (r (9 + 2 * o + 1)) i 0 = _
          rw [show 9 + 2 * o + 1 = 10 + 2 * o by omega]
        · rw [pt_k w]
          by_cases w2 : q = 9 + 2 * o
          · subst w2; rw [spl_in (by omega), Nat.sub_self, pt_k (by decide)]; rfl
          · rw [spl_out (by omega)]
      have e : d_X3_man_L73 u (n + 1) r i = d_X3_man_L73 u n (pt r (10 + 2 * o) i 0) (i + 1) := by
        rw [d_X3_man_L73, hu, eb]
        refine (if_neg (nI_ge (b := 6) (by omega) (by decide))).trans ((lt_eq rfl).trans ?_)
        rw [es]
      obtain ⟨g1, g2, g3⟩ := ih (i + 1) (pt r (10 + 2 * o) i 0) (by omega) (by omega)
      rw [e]
      refine ⟨fun q hq => by rw [g1 q hq, pt_k hq], fun t ht => by rw [g2 t (by omega), pt_o (by omega)], fun t h3 h4 => ?_⟩
      by_cases z : t = i
      · subst z; rw [g2 t (by omega), pt_i]
      · exact g3 t (by omega) h4
